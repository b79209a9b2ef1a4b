/-! words: as letters, as a code -/
def stp (x : Int64) (b : Int32) : Int64 := if lg_cmp x 10000000000000 ≤ 0 then (27 * x + b.toInt64) - 96 else 20000000000000
theorem cdF_snoc (F : Nat → Int32) : ∀ n p x, cdF F (n + 1) p x = stp (cdF F n p x) (F (p + n))
  | 0, p, x => rfl
  | n + 1, p, x => by
    show cdF F (n + 1) (p + 1) (stp x (F p)) = stp (cdF F n (p + 1) (stp x (F p))) (F (p + (n + 1)))
    rw [cdF_snoc F n (p + 1) (stp x (F p)), show p + 1 + n = p + (n + 1) by omega]
theorem tlE13 : (10000000000000 : Int64).toInt = 10000000000000 := by decide
theorem tl2E13 : (20000000000000 : Int64).toInt = 20000000000000 := by decide
theorem stp_ti {x : Int64} {b : Int32} (hx : 0 ≤ x.toInt ∧ x.toInt ≤ 300000000000000) (hb : 97 ≤ b.toInt ∧ b.toInt ≤ 122) : (stp x b).toInt = if x.toInt ≤ 10000000000000 then 27 * x.toInt + b.toInt - 96 else 20000000000000 := by
  unfold stp
  by_cases h : x.toInt ≤ 10000000000000
  · rw [if_pos ((lg_cmp_le _ _).mpr (Int64.le_iff_toInt_le.mpr (by rw [tlE13]; exact h))), if_pos h]
    rw [Int64.toInt_sub, Int64.toInt_add, Int64.toInt_mul, ti64]
    have e27 : (27 : Int64).toInt = 27 := by decide
    have e96 : (96 : Int64).toInt = 96 := by decide
    rw [e27, e96]
    rw [show (27 * x.toInt).bmod (2 ^ 64) = 27 * x.toInt from Int.bmod_eq_of_le (by omega) (by omega)]
    rw [show (27 * x.toInt + b.toInt).bmod (2 ^ 64) = 27 * x.toInt + b.toInt from Int.bmod_eq_of_le (by omega) (by omega)]
    exact Int.bmod_eq_of_le (by omega) (by omega)
  · rw [if_neg (fun z => h (by have := Int64.le_iff_toInt_le.mp ((lg_cmp_le _ _).mp z); rw [tlE13] at this; exact this)), if_neg h, tl2E13]
theorem cdF_rg (F : Nat → Int32) (p : Nat) : ∀ n, (∀ k, k < n → bLet (F (p + k)) = true) → 0 ≤ (cdF F n p 0).toInt ∧ (cdF F n p 0).toInt ≤ 300000000000000
  | 0, _ => by show 0 ≤ (0 : Int64).toInt ∧ (0 : Int64).toInt ≤ 300000000000000; decide
  | n + 1, h => by
    have ih := cdF_rg F p n (fun k hk => h k (by omega))
    have hb := of_decide_eq_true (h n (by omega))
    rw [cdF_snoc, stp_ti ih hb]
    split <;> omega
def encZ : List Int32 → Int
  | [] => 0
  | b :: l => 27 * encZ l + (b.toInt - 96)
def bLets : List Int32 → Prop
  | [] => True
  | b :: l => (97 ≤ b.toInt ∧ b.toInt ≤ 122) ∧ bLets l
theorem encZ_nn : ∀ l, bLets l → 0 ≤ encZ l
  | [], _ => by show (0 : Int) ≤ 0; omega
  | b :: l, h => by have := encZ_nn l h.2; show 0 ≤ 27 * encZ l + (b.toInt - 96); have := h.1; omega
def mtR (F : Nat → Int32) (p : Nat) : List Int32 → Nat → Prop
  | [], n => n = 0
  | b :: l, n => ∃ m, n = m + 1 ∧ F (p + m) = b ∧ mtR F p l m
theorem cd_mt (F : Nat → Int32) (p : Nat) : ∀ (l : List Int32) (n : Nat), bLets l → encZ l ≤ 10000000000000 → (∀ k, k < n → bLet (F (p + k)) = true) → ((cdF F n p 0).toInt = encZ l ↔ mtR F p l n)
  | [], 0, _, _, _ => by
    show (0 : Int64).toInt = 0 ↔ (0 : Nat) = 0
    exact ⟨fun _ => rfl, fun _ => by decide⟩
  | [], n + 1, _, _, h => by
    have ih := cdF_rg F p n (fun k hk => h k (by omega))
    have hb := of_decide_eq_true (h n (by omega))
    rw [cdF_snoc, stp_ti ih hb]
    show _ = (0 : Int) ↔ n + 1 = 0
    constructor
    · intro e; split at e <;> omega
    · intro e; omega
  | b :: l, 0, hl, _, _ => by
    have h0 := encZ_nn l hl.2
    show (0 : Int64).toInt = 27 * encZ l + (b.toInt - 96) ↔ ∃ m, 0 = m + 1 ∧ _
    have hz : (0 : Int64).toInt = 0 := by decide
    rw [hz]
    constructor
    · intro e; have := hl.1; omega
    · rintro ⟨m, e, -⟩; omega
  | b :: l, n + 1, hl, hE, h => by
    have ih := cdF_rg F p n (fun k hk => h k (by omega))
    have hb := of_decide_eq_true (h n (by omega))
    have h0 := encZ_nn l hl.2
    have hE : 27 * encZ l + (b.toInt - 96) ≤ 10000000000000 := hE
    have hl1 := hl.1
    have r := cd_mt F p l n hl.2 (by omega) (fun k hk => h k (by omega))
    rw [cdF_snoc, stp_ti ih hb]
    show _ = 27 * encZ l + (b.toInt - 96) ↔ ∃ m, n + 1 = m + 1 ∧ F (p + m) = b ∧ mtR F p l m
    constructor
    · intro e
      refine ⟨n, rfl, ?_, r.mp ?_⟩
      · apply Int32.toInt_inj.mp
        split at e <;> omega
      · split at e <;> omega
    · rintro ⟨m, hm, e, hm2⟩
      have : m = n := by omega
      subst this
      have := r.mpr hm2
      rw [if_pos (by omega), e, this]; omega
theorem mtR_iff (F : Nat → Int32) (p : Nat) : ∀ (l : List Int32) (n : Nat), mtR F p l n ↔ (n = l.length ∧ ∀ k, k < l.length → F (p + k) = l.getD (l.length - 1 - k) 0)
  | [], n => by
    show n = 0 ↔ n = 0 ∧ ∀ k, k < 0 → _
    exact ⟨fun h => ⟨h, fun k hk => absurd hk (Nat.not_lt_zero k)⟩, fun h => h.1⟩
  | b :: l, n => by
    show (∃ m, n = m + 1 ∧ F (p + m) = b ∧ mtR F p l m) ↔ n = l.length + 1 ∧ ∀ k, k < l.length + 1 → F (p + k) = (b :: l).getD (l.length + 1 - 1 - k) 0
    constructor
    · rintro ⟨m, rfl, e, hm⟩
      obtain ⟨rfl, hk⟩ := (mtR_iff F p l m).mp hm
      refine ⟨rfl, fun k hk2 => ?_⟩
      by_cases hkl : k = l.length
      · rw [hkl, show l.length + 1 - 1 - l.length = 0 by omega]; exact e
      · rw [hk k (by omega), show l.length + 1 - 1 - k = (l.length - 1 - k) + 1 by omega]; rfl
    · rintro ⟨rfl, hk⟩
      refine ⟨l.length, rfl, ?_, (mtR_iff F p l _).mpr ⟨rfl, fun k hk2 => ?_⟩⟩
      · rw [hk l.length (by omega), show l.length + 1 - 1 - l.length = 0 by omega]; rfl
      · rw [hk k (by omega), show l.length + 1 - 1 - k = (l.length - 1 - k) + 1 by omega]; rfl
def wdB (F : Nat → Int32) (q r : Nat) (l : List Int32) : Bool := decide (r = q + l.length) && decide (∀ k, k < l.length → F (q + k) = l.getD (l.length - 1 - k) 0)
theorem wdB_iff {F : Nat → Int32} {q r : Nat} {l : List Int32} : wdB F q r l = true ↔ (r = q + l.length ∧ ∀ k, k < l.length → F (q + k) = l.getD (l.length - 1 - k) 0) := by
  unfold wdB
  rw [Bool.and_eq_true, decide_eq_true_iff, decide_eq_true_iff]
def rvw (w : Nat) : List Int32 := (jw_byt.getD w []).reverse
theorem lw_in (F : Nat → Int32) (c q : Nat) : ∀ k, k < lw F c q - q → bLet (F (q + k)) = true := fun k hk => advF_in bLet F (c - q) q (q + k) (by omega) (by show q + k < lw F c q; omega)
theorem cdF_cong {f g : Nat → Int32} : ∀ n p (x : Int64), (∀ k, p ≤ k → k < p + n → f k = g k) → cdF f n p x = cdF g n p x
  | 0, _, _, _ => rfl
  | n + 1, p, x, h => by
    unfold cdF
    rw [h p (Nat.le_refl _) (by omega), cdF_cong n (p + 1) _ (fun k h1 h2 => h k (by omega) (by omega))]
/-- a word's code is K just if the word is it -/
theorem mis {F : Nat → Int32} {c q : Nat} {l : List Int32} {K : Int64} (hq : q ≤ c) (hl : bLets l) (hE : encZ l ≤ 10000000000000) (hK : K.toInt = encZ l) : (lg_cmp (cdF F (lw F c q - q) q 0) K = 0) ↔ wdB F q (lw F c q) l = true := by
  have h1 := lw_le F hq
  rw [lg_cmp_eq, ← Int64.toInt_inj, hK, cd_mt F q l _ hl hE (lw_in F c q), mtR_iff, wdB_iff]
  constructor
  · rintro ⟨e, h⟩; exact ⟨by omega, h⟩
  · rintro ⟨e, h⟩; exact ⟨by omega, h⟩
theorem rvw_len : ∀ w, w < 7 → (rvw w).length = jw_len.getD w 0 := by decide
theorem rvw_at : ∀ w, w < 7 → ∀ k, k < jw_len.getD w 0 → (rvw w).getD ((rvw w).length - 1 - k) 0 = chr w (nI k) := by decide +kernel
theorem chr_ok {w k : Nat} (hw : w < 7) (hk : k < jw_len.getD w 0) : f_charAt w (nI k) = some ((rvw w).getD ((rvw w).length - 1 - k) 0) := by
  rw [rvw_at w hw k hk]
  have hlen : jw_len.getD w 0 ≤ 6 := (by decide : ∀ w, w < 7 → jw_len.getD w 0 ≤ 6) w hw
  have hnar : narrow .char (.int (chr w (nI k))) = .int (chr w (nI k)) := by
    have : w = 0 ∨ w = 1 ∨ w = 2 ∨ w = 3 ∨ w = 4 ∨ w = 5 ∨ w = 6 := by omega
    have hk6 : k = 0 ∨ k = 1 ∨ k = 2 ∨ k = 3 ∨ k = 4 ∨ k = 5 := by omega
    rcases this with rfl | rfl | rfl | rfl | rfl | rfl | rfl <;> rcases hk6 with rfl | rfl | rfl | rfl | rfl | rfl <;> rfl
  unfold f_charAt f_chr
  have z1 : (0 : Int32) ≤ nI k := by
    show nI 0 ≤ nI k
    rw [nI_le' (by omega) (by omega)]; omega
  have z2 : nI k < nI (jw_len.getD w 0) := by rw [nI_lt' (by omega) (by omega)]; exact hk
  exact gd_t ⟨hw, nI_in' hk (by omega), ⟨z1, z2⟩, hnar⟩
theorem xis {nm : Nat → Nat} {F : Nat → Int32} {c q r w : Nat} {σ : jS} (h0 : nm 0 = 30) (h1 : nm 1 = 1) (h2 : nm 2 = 2) (hw : w < 7) (hC : XC F c σ) (hq : q ≤ r) (hr : r ≤ c) (e1 : g_i σ 30 1 = nI r) (e2 : g_i σ 30 2 = nI q) : f_X3_wordIs nm w σ = some (if wdB F q r (rvw w) = true then 1 else 0) := by
  have hc := hC.1
  have hlen : jw_len.getD w 0 ≤ 6 := (by decide : ∀ w, w < 7 → jw_len.getD w 0 ≤ 6) w hw
  have esl : f_strlen w = some (nI (jw_len.getD w 0)) := by unfold f_strlen; rw [gd_t hw]
  have hL := rvw_len w hw
  unfold f_X3_wordIs
  rw [esl, bnd, h0, e1, e2, nI_sb hq]
  by_cases hrl : r = q + (rvw w).length
  · rw [if_pos (by rw [← hL, show r - q = (rvw w).length by omega])]
    refine wp_eq ?_
    refine wp_bind ?_
    refine wp_up (jw_len.getD w 0) (fun i s => s = nI i ∧ ∀ k, k < i → F (q + k) = (rvw w).getD ((rvw w).length - 1 - k) 0) (i := 0) (by omega) (by omega) ⟨rfl, fun j hj => absurd hj (Nat.not_lt_zero j)⟩ ?_
    rintro i s hi ⟨rfl, hm⟩
    unfold f_X3_wordIs_L20
    rw [esl, bnd]
    refine wp_ite (fun hc' => ?_) (fun hc' => ?_)
    · rw [nI_le' (by omega) (by omega)] at hc'
      refine wp_some (wp_some ?_)
      rw [if_pos (wdB_iff.mpr ⟨hrl, fun k hk => hm k (by omega)⟩)]
    · rw [nI_le' (by omega) (by omega)] at hc'
      have ea : f_X4_at (jn nm [1, 2]) 400 (g_i σ (nm 0) 2 + nI i) σ = some (F (q + i)) := by
        rw [h0, e2, nI_add, row_atI (n := c) (show g_i σ (nm 1) 1 = nI c by rw [h1]; exact hC.2.1) hc (by omega) (by omega)]
        show some (g_i σ (nm 2) (q + i)) = _
        rw [h2, hC.2.2 _ (by omega)]
      refine wp_bindE ea ?_
      refine wp_bindE (chr_ok hw (by omega)) ?_
      refine wp_ite (fun he => ?_) (fun he => ?_)
      · refine wp_some ⟨by omega, nI_1 i, fun k hk => ?_⟩
        by_cases hki : k = i
        · rw [hki]; exact he
        · exact hm k (by omega)
      · refine wp_some (wp_some ?_)
        rw [if_neg]
        intro hw
        exact he ((wdB_iff.mp hw).2 i (by omega))
  · rw [if_neg, if_neg]
    · intro h; exact hrl (wdB_iff.mp h).1
    · intro h
      have h := congrArg Int32.toInt h
      rw [nI_ti (by omega), nI_ti (by omega)] at h
      omega
theorem xwordR {nm : Nat → Nat} {F : Nat → Int32} {c p : Nat} {σ : jS} (h0 : nm 0 = 30) (h1 : nm 1 = 1) (h2 : nm 2 = 2) (hC : XC F c σ) (hR : XR c (.ok p) σ) : ∃ τ, f_X3_readWord nm σ = some τ ∧ ux w30 σ τ ∧ XR c (.ok (lw F c (sk F c p))) τ ∧ g_i τ 30 2 = nI (sk F c p) := by
  obtain ⟨p', hp, ep, rfl, e4, e5⟩ := hR
  have hT := hC.2.2
  obtain ⟨⟨b1, b2, b3⟩, en⟩ := xword h0 h1 h2 hC.1 hC.2.1 hp ep (q := sk F c p) (r := lw F c (sk F c p)) (sk_cong hT).symm (lw_cong hT).symm
  refine ⟨_, en, ux30 (ux30 (ux30 (ux_refl _ _))), ⟨_, b3, s_i_eq _ _ _ _, rfl, ?_, ?_⟩, ?_⟩
  · exact (s_i_k (by decide)).trans ((s_i_k (by decide)).trans ((s_i_k (by decide)).trans e4))
  · exact (s_i_k (by decide)).trans ((s_i_k (by decide)).trans ((s_i_k (by decide)).trans e5))
  · exact (s_i_k (by decide)).trans (s_i_eq _ _ _ _)
