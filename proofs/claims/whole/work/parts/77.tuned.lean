/-! tuned: the least sum, class side -/
def popc (S : Nat) : Nat := cntB (fun k => S.testBit k) 10
theorem cntB_ud {f g : Nat → Bool} {l : Nat} : ∀ {N : Nat}, l < N → f l = false → g l = true → (∀ k, k ≠ l → g k = f k) → cntB g N = cntB f N + 1
  | 0, h, _, _, _ => absurd h (Nat.not_lt_zero l)
  | N + 1, h, hf, hg, ho => by
    unfold cntB
    by_cases e : l = N
    · have : ∀ M, M ≤ l → cntB g M = cntB f M := fun M => by
        induction M with
        | zero => intro _; rfl
        | succ M ih =>
          intro hM
          unfold cntB
          rw [ih (by omega), ho M (by omega)]
      rw [this N (by omega), ← e, hg, hf, if_pos rfl, if_neg (by decide)]
    · rw [cntB_ud (show l < N by omega) hf hg ho, ho N (fun h => e h.symm)]
      omega
theorem popc_or {S l : Nat} (hl : l < 10) (h : S.testBit l = false) : popc (S ||| 2 ^ l) = popc S + 1 := by
  refine cntB_ud hl h ?_ (fun k hk => ?_)
  · show (S ||| 2 ^ l).testBit l = true
    rw [Nat.testBit_or, Nat.testBit_two_pow_self, Bool.or_true]
  · show (S ||| 2 ^ l).testBit k = S.testBit k
    rw [Nat.testBit_or, Nat.testBit_two_pow, decide_eq_false (fun e => hk e.symm), Bool.or_false]
theorem or_eq_iff {S l : Nat} : S ||| 2 ^ l = S ↔ S.testBit l = true := by
  constructor
  · intro h
    have := congrArg (fun z => z.testBit l) h
    simp only [Nat.testBit_or, Nat.testBit_two_pow_self, Bool.or_true] at this
    exact this.symm
  · intro h
    apply Nat.eq_of_testBit_eq
    intro i
    rw [Nat.testBit_or, Nat.testBit_two_pow]
    by_cases e : l = i
    · rw [← e, h, Bool.true_or]
    · rw [decide_eq_false e, Bool.or_false]
theorem or_gt {S l : Nat} (h : S.testBit l = false) : S < S ||| 2 ^ l := by
  have h1 : S ≤ S ||| 2 ^ l := Nat.left_le_or
  have h2 : S ||| 2 ^ l ≠ S := fun e => by rw [or_eq_iff.mp e] at h; cases h
  omega
theorem or_lt2 {S l n : Nat} (hS : S < 2 ^ n) (hl : l < n) : S ||| 2 ^ l < 2 ^ n := Nat.or_lt_two_pow hS (Nat.pow_lt_pow_right (by decide) hl)
theorem nI_orb {S l : Nat} (hl : l < 31) : nI S ||| ((1 : Int32) <<< (nI l &&& 31)) = nI (S ||| 2 ^ l) := by rw [bit_eq l hl, nI_or]
theorem nI_p1m (M : Nat) : nI (M + 1) - 1 = nI M := (nI_sb (a := M + 1) (b := 1) (by omega)).trans (congrArg nI (by omega))
theorem nI_a1 (x : Int32) : x + (-1) = x - 1 := (Int32.sub_eq_add_neg x 1).symm
theorem neg1_lt : (nI 0 - 1 : Int32) < 0 := by decide
/-- the least of the first values, and 100000 -/
def mn (f : Nat → Nat) : Nat → Nat
  | 0 => 100000
  | i + 1 => min (mn f i) (f i)
theorem mn_s (f : Nat → Nat) (i : Nat) : mn f (i + 1) = min (mn f i) (f i) := rfl
theorem mn_le (f : Nat → Nat) : ∀ i, mn f i ≤ 100000
  | 0 => Nat.le_refl _
  | i + 1 => by have := mn_le f i; unfold mn; omega
theorem mn_cong {f g : Nat → Nat} : ∀ {i : Nat}, (∀ k, k < i → f k = g k) → mn f i = mn g i
  | 0, _ => rfl
  | i + 1, h => by unfold mn; rw [mn_cong (fun k hk => h k (by omega)), h i (by omega)]
theorem mn_at (f : Nat → Nat) : ∀ i, mn f i < 100000 → ∃ l, l < i ∧ f l = mn f i
  | 0, h => by unfold mn at h; omega
  | i + 1, h => by
    unfold mn at h ⊢
    by_cases e : f i ≤ mn f i
    · exact ⟨i, by omega, by omega⟩
    · obtain ⟨l, hl, hf⟩ := mn_at f i (by omega)
      exact ⟨l, by omega, by omega⟩
def fW (nt : Nat → Nat) (note S : Nat) (V : Nat → Nat) (l : Nat) : Nat := if S.testBit l = true ∨ note < nt l then 100000 else note - nt l + V (S ||| 2 ^ l)
def Rf (nt : Nat → Nat) (u st nL : Nat) : Nat → Nat → Nat → Nat
  | 0, _, _ => 0
  | d + 1, k, S => mn (fW nt (u + k * st) S (Rf nt u st nL d (k + 1))) nL
theorem Rf_le (nt : Nat → Nat) (u st nL : Nat) : ∀ d k S, Rf nt u st nL d k S ≤ 100000
  | 0, _, _ => by unfold Rf; omega
  | d + 1, _, _ => mn_le _ _
theorem Rf_fin {nt : Nat → Nat} {u st nL : Nat} : ∀ d k S, (∀ j, j < k + d → u + j * st ≤ 63) → Rf nt u st nL d k S < 100000 → Rf nt u st nL d k S ≤ 63 * d
  | 0, _, _, _, _ => by unfold Rf; omega
  | d + 1, k, S, hj, h => by
    have h : mn (fW nt (u + k * st) S (Rf nt u st nL d (k + 1))) nL < 100000 := h
    obtain ⟨l, hl, hf⟩ := mn_at _ _ h
    show mn (fW nt (u + k * st) S (Rf nt u st nL d (k + 1))) nL ≤ 63 * (d + 1)
    rw [← hf] at h ⊢
    unfold fW at h ⊢
    by_cases hc : S.testBit l = true ∨ u + k * st < nt l
    · rw [if_pos hc] at h; omega
    · rw [if_neg hc] at h ⊢
      have := Rf_fin (nt := nt) (nL := nL) d (k + 1) (S ||| 2 ^ l) (fun j hj2 => hj j (by omega)) (by omega)
      have := hj k (by omega)
      omega
/-- the cells of a call of Filing: the quay's lamps, the moment's notes, the sums -/
def filNm (nm : Nat → Nat) : Prop := nm 2 = 32 ∧ nm 19 = 58 ∧ nm 24 = 100
theorem note_c {nm : Nat → Nat} {l : Nat} {σ : jS} (h : nm 18 = 58) (hl : l < 10) : f_X2_noteOf nm (nI l) σ = some (g_i σ 58 l) := by
  unfold f_X2_noteOf
  have n10 : ¬ (10 : Int32) ≤ nI l := nle_lit (a := 10) (by omega) (by omega)
  rw [if_neg (nI_neg0 (by omega)), if_neg n10, gd_t (nI_in' (by omega) (by omega)), nI_cl (by omega), h]
theorem rest_c {nm : Nat → Nat} {nL S l note : Nat} {nt V : Nat → Nat} {σ : jS} (hm : filNm nm) (hn : nL ≤ 10) (hl : l < nL) (hS : S < 2 ^ nL) (hnt : g_i σ 58 l = nI (nt l) ∧ nt l ≤ 63) (hno : note ≤ 63) (hV : S.testBit l = false → g_i σ 100 (S ||| 2 ^ l) = nI (V (S ||| 2 ^ l))) : f_X0_restWith nm (nI S) (nI l) (nI note) σ = some (nI (fW nt note S V l)) := by
  obtain ⟨m2, m19, m24⟩ := hm
  have hp := pow10 hn
  have ho := or_lt2 hS hl
  unfold f_X0_restWith fW
  rw [bdx, nI_orb (by omega)]
  by_cases hb : S.testBit l = true
  · rw [or_eq_iff.mpr hb, if_pos rfl, if_pos (Or.inl hb)]; rfl
  · have hbf : S.testBit l = false := Bool.eq_false_iff.mpr hb
    have hgt := or_gt hbf
    rw [if_neg (by rw [nI_inj (by omega) (by omega)]; omega), if_neg (show ¬ (1024 : Int32) ≤ nI (S ||| 2 ^ l) from fun e => by
      have e : nI 1024 ≤ nI (S ||| 2 ^ l) := e
      rw [nI_le' (by omega) (by omega)] at e; omega)]
    have en : f_X2_noteOf (jn nm [18, 1, 2, 3, 4, 5, 6, 7, 8, 9, 10, 11, 12, 13, 14, 15, 16, 17, 19, 20, 21, 22]) (nI l) σ = some (nI (nt l)) := by rw [note_c (by exact m19) (by omega), hnt.1]
    rw [en, bnd, bnd]
    by_cases hc : nt l ≤ note
    · rw [if_pos (by rw [nI_le' (by omega) (by omega)]; exact hc), if_neg (by rintro (h | h); exact hb h; omega), gd_t (nI_in' (by omega) (by omega)), nI_cl (by omega), m24, hV hbf, nI_sb hc, nI_add]
    · rw [if_neg (by rw [nI_le' (by omega) (by omega)]; exact hc), if_pos (Or.inr (by omega))]; rfl
theorem leastRest_c {nm : Nat → Nat} {nL S note : Nat} {nt V : Nat → Nat} {σ : jS} (hm : filNm nm) (hn : nL ≤ 10) (h32 : g_i σ 32 1 = nI nL) (hS : S < 2 ^ nL) (hnt : ∀ l, l < nL → g_i σ 58 l = nI (nt l) ∧ nt l ≤ 63) (hno : note ≤ 63) (hV : ∀ l, l < nL → S.testBit l = false → g_i σ 100 (S ||| 2 ^ l) = nI (V (S ||| 2 ^ l))) (hV2 : ∀ x, V x ≤ 100000) : f_X0_leastRest nm (nI S) (nI note) σ = some (nI (mn (fW nt note S V) nL)) := by
  refine wp_eq ?_
  unfold f_X0_leastRest
  refine wp_bind ?_
  refine wp_up nL (fun i s => s = (nI (mn (fW nt note S V) i), nI i)) (i := 0) (by omega) (by omega) rfl ?_
  rintro i s hi rfl
  unfold f_X0_leastRest_L6
  have hla : f_X6_lamps (jn nm [1, 2, 3, 4, 5, 6, 7, 8, 9, 10, 11, 12, 13, 14, 15, 16, 17]) σ = some (nI nL) := by
    show some (g_i σ (nm 2) 1) = _
    rw [hm.1, h32]
  show wp ((f_X6_lamps (jn nm [1, 2, 3, 4, 5, 6, 7, 8, 9, 10, 11, 12, 13, 14, 15, 16, 17]) σ).bind _) _
  refine wp_bindE hla ?_
  refine wp_ite (fun hc => ?_) (fun hc => ?_)
  · rw [nI_le' (by omega) (by omega)] at hc
    have : i = nL := by omega
    subst this
    exact wp_some (wp_some rfl)
  · rw [nI_le' (by omega) (by omega)] at hc
    refine wp_bindE (rest_c hm hn (by omega) hS (hnt i (by omega)) hno (hV i (by omega))) (wp_bd (fun x hx => wp_some ⟨by omega, ?_⟩))
    have b1 := mn_le (fW nt note S V) i
    have b2 : fW nt note S V i ≤ 200000 := by
      unfold fW
      have := hV2 (S ||| 2 ^ i)
      split <;> omega
    rw [hx, nI_1]
    congr 1
    apply Int32.toInt_inj.mp
    rw [ti_min, nI_ti (by omega), nI_ti (by omega), mn_s, nI_ti (by omega)]
    omega
theorem bc_eq : ∀ S, S < 1024 → f_J6_bitCount_0f7a4 (nI S) = some (nI (popc S)) := by
  have h : ∀ S, S < 1024 → (match f_J6_bitCount_0f7a4 (nI S) with | some v => decide (v = nI (popc S)) | none => false) = true := by decide +kernel
  intro S hS
  have := h S hS
  revert this
  cases f_J6_bitCount_0f7a4 (nI S) with
  | none => intro h; cases h
  | some v => intro h; rw [of_decide_eq_true h]
