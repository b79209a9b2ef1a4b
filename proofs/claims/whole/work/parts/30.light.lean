def bt (x : Int32) (i : Nat) : Bool := x.toBitVec.getLsbD i
theorem b_ext {x y : Int32} (h : ∀ i, i < 32 → bt x i = bt y i) : x = y := Int32.toBitVec_inj.mp (BitVec.eq_of_getLsbD_eq (fun i hi => h i hi))
theorem b_or (x y : Int32) (i : Nat) : bt (x ||| y) i = (bt x i || bt y i) := by unfold bt; rw [Int32.toBitVec_or, BitVec.getLsbD_or]
theorem b_and (x y : Int32) (i : Nat) : bt (x &&& y) i = (bt x i && bt y i) := by unfold bt; rw [Int32.toBitVec_and, BitVec.getLsbD_and]
theorem b_xor (x y : Int32) (i : Nat) : bt (x ^^^ y) i = (bt x i ^^ bt y i) := by unfold bt; rw [Int32.toBitVec_xor, BitVec.getLsbD_xor]
theorem b_big {x : Int32} {i : Nat} (h : 32 ≤ i) : bt x i = false := BitVec.getLsbD_of_ge _ _ h
theorem b_m1 : ∀ i, i < 32 → bt (-1) i = true := by decide +kernel
theorem b_0 (i : Nat) : bt 0 i = false := BitVec.getLsbD_zero
theorem sh_l : ∀ n, n < 32 → ((nI n &&& 31).toBitVec.smod 32).toNat = n := by decide +kernel
theorem b_sshr (n : Nat) (hn : n < 32) (x : Int32) {i : Nat} (hi : i < 32) : bt (x >>> (nI n &&& 31)) i = if n + i < 32 then bt x (n + i) else bt x 31 := by
  unfold bt
  rw [Int32.toBitVec_shiftRight]
  show (x.toBitVec.sshiftRight ((nI n &&& 31).toBitVec.smod 32).toNat).getLsbD i = _
  rw [sh_l n hn, BitVec.getLsbD_sshiftRight, BitVec.msb_eq_getLsbD_last]
  simp [hi]
theorem bt_nI {S l : Nat} (hl : l < 32) : bt (nI S) l = S.testBit l := by
  show (BitVec.ofNat 32 S).getLsbD l = _
  rw [BitVec.getLsbD_ofNat, decide_eq_true hl, Bool.true_and]
theorem bt_1 : ∀ i, i < 32 → bt 1 i = decide (i = 0) := by decide +kernel
theorem bit0 {S l : Nat} (hl : l < 32) : ((nI S >>> (nI l &&& 31)) &&& 1) = if S.testBit l then 1 else 0 := by
  apply b_ext
  intro i hi
  rw [b_and, b_sshr l hl _ hi, bt_1 i hi]
  by_cases h0 : i = 0
  · subst h0
    rw [Nat.add_zero, if_pos hl, bt_nI hl]
    cases S.testBit l with
    | true => rfl
    | false => rfl
  · rw [decide_eq_false h0, Bool.and_false]
    cases S.testBit l with
    | true => rw [if_pos rfl, bt_1 i hi, decide_eq_false h0]
    | false => rw [if_neg (by decide), b_0]
theorem has_eq {S l : Nat} (hl : l < 32) : f_X11_has (nI S) (nI l) = some (if S.testBit l then 1 else 0) := by
  unfold f_X11_has
  rw [bit0 hl]
  cases S.testBit l with
  | true => rfl
  | false => rfl
/-! lighting -/
def wLi (b : Nat) : Nat → Nat → Bool := fun a _ => a == b + 2 || a == b + 4
theorem light_c {nm : Nat → Nat} {b S : Nat} {by_ : Int32} (hm : momNm nm b) (hb : b ≠ 29 ∧ b ≠ 27) (σ : jS) : wp (f_X2_light nm (nI S) by_ σ) (fun τ => ux (wLi b) σ τ ∧ ∀ l, l < 10 → g_i τ (b + 2) l = (if S.testBit l then g_i σ 31 8 else g_i σ (b + 2) l) ∧ g_i τ (b + 4) l = (if S.testBit l then by_ else g_i σ (b + 4) l)) := by
  unfold f_X2_light
  refine wp_bind ?_
  refine wp_up 10 (fun i s => s.1 = nI i ∧ ux (wLi b) σ s.2 ∧ (∀ l, l < i → g_i s.2 (b + 2) l = (if S.testBit l then g_i σ 31 8 else g_i σ (b + 2) l) ∧ g_i s.2 (b + 4) l = (if S.testBit l then by_ else g_i σ (b + 4) l)) ∧ ∀ l, i ≤ l → g_i s.2 (b + 2) l = g_i σ (b + 2) l ∧ g_i s.2 (b + 4) l = g_i σ (b + 4) l) (i := 0) (by omega) (by omega) ⟨rfl, ux_refl _ _, fun l hl => absurd hl (Nat.not_lt_zero l), fun l _ => ⟨rfl, rfl⟩⟩ ?_
  rintro i ⟨v, υ⟩ hi ⟨hv, hu, hlo, hhi⟩
  have hv : v = nI i := hv
  subst hv
  have hu : ux (wLi b) σ υ := hu
  unfold f_X2_light_L2
  show wp (if nI 10 ≤ nI i then _ else _) _
  refine wp_ite (fun hc => ?_) (fun hc => ?_)
  · rw [nI_le' (by omega) (by omega)] at hc
    exact wp_some (wp_some ⟨hu, fun l hl => hlo l (by omega)⟩)
  · rw [nI_le' (by omega) (by omega)] at hc
    rw [bit0 (by omega)]
    cases hbit : S.testBit i with
    | false =>
      rw [if_pos (by rfl)]
      refine wp_some ⟨by omega, nI_1 i, hu, fun l hl => ?_, fun l hl => hhi l (by omega)⟩
      by_cases hli : l = i
      · subst hli
        rw [hbit]
        exact hhi l (Nat.le_refl _)
      · exact hlo l (by omega)
    | true =>
      rw [if_neg (by decide)]
      have hin : vp_in (nI i) 10 := nI_in' (by omega) (by omega)
      refine wp_gd hin (wp_bd (fun s1 h1 => wp_gd hin (wp_bd (fun s2 h2 => wp_some ⟨by omega, nI_1 i, ?_, ?_, ?_⟩))))
      · rw [h2, h1, hm.2.2.1, hm.2.2.2.2]
        exact ux_s (ux_s hu (by simp [wLi])) (by simp [wLi])
      · intro l hl
        rw [h2, h1, hm.2.2.1, hm.2.2.2.2, hm.1.2.1, nI_cl (by omega)]
        have e31 : g_i υ 31 8 = g_i σ 31 8 := hu 31 8 (by simp [wLi]; omega)
        show g_i (s_i (s_i υ (b + 2) i (g_i υ 31 8)) (b + 4) i by_) (b + 2) l = _ ∧ g_i (s_i (s_i υ (b + 2) i (g_i υ 31 8)) (b + 4) i by_) (b + 4) l = _
        rw [s_i_a (show b + 2 ≠ b + 4 by omega)]
        by_cases hli : l = i
        · subst hli
          rw [s_i_eq, s_i_eq, hbit, if_pos rfl, if_pos rfl, e31]
          exact ⟨rfl, rfl⟩
        · rw [s_i_k hli, s_i_k hli, s_i_a (show b + 4 ≠ b + 2 by omega)]
          exact hlo l (by omega)
      · intro l hl
        rw [h2, h1, hm.2.2.1, hm.2.2.2.2, nI_cl (by omega)]
        show g_i (s_i (s_i υ (b + 2) i _) (b + 4) i by_) (b + 2) l = _ ∧ g_i (s_i (s_i υ (b + 2) i _) (b + 4) i by_) (b + 4) l = _
        rw [s_i_k (show l ≠ i by omega), s_i_k (show l ≠ i by omega), s_i_k (show l ≠ i by omega), s_i_k (show l ≠ i by omega)]
        exact hhi l (by omega)
def wSo : Nat → Nat → Bool := fun a _ => a == 103 || a == 105
theorem sound_lp {n S : Nat} {who : Int32} {σ : jS} (hn : n ≤ 10) (h0 : g_i σ 101 0 = nI n) (hS : S < 2 ^ n) : wp (lp (f_X11_sound_L16 nmM who (nI S)) fu (0, σ)) (fun τ => ux wSo σ τ ∧ ∀ l, l < 10 → g_i τ 103 l = (if S.testBit l then g_i σ 101 5 else g_i σ 103 l) ∧ g_i τ 105 l = (if S.testBit l then who else g_i σ 105 l)) := by
  refine wp_up n (fun i s => s.1 = nI i ∧ ux wSo σ s.2 ∧ (∀ l, l < i → g_i s.2 103 l = (if S.testBit l then g_i σ 101 5 else g_i σ 103 l) ∧ g_i s.2 105 l = (if S.testBit l then who else g_i σ 105 l)) ∧ ∀ l, i ≤ l → g_i s.2 103 l = g_i σ 103 l ∧ g_i s.2 105 l = g_i σ 105 l) (i := 0) (by omega) (by omega) ⟨rfl, ux_refl _ _, fun l hl => absurd hl (Nat.not_lt_zero l), fun l _ => ⟨rfl, rfl⟩⟩ ?_
  rintro i ⟨v, υ⟩ hi ⟨hv, hu, hlo, hhi⟩
  have hv : v = nI i := hv
  subst hv
  have hu : ux wSo σ υ := hu
  have hlo : ∀ l, l < i → g_i υ 103 l = (if S.testBit l then g_i σ 101 5 else g_i σ 103 l) ∧ g_i υ 105 l = (if S.testBit l then who else g_i σ 105 l) := hlo
  have hhi : ∀ l, i ≤ l → g_i υ 103 l = g_i σ 103 l ∧ g_i υ 105 l = g_i σ 105 l := hhi
  unfold f_X11_sound_L16
  have e0 : g_i υ (nmM 0) 0 = nI n := (hu 101 0 rfl).trans h0
  show wp (if g_i υ (nmM 0) 0 ≤ nI i then _ else _) _
  rw [e0]
  refine wp_ite (fun hc => ?_) (fun hc => ?_)
  · rw [nI_le' (by omega) (by omega)] at hc
    refine wp_some ⟨hu, fun l hl => ?_⟩
    by_cases hln : l < i
    · exact hlo l hln
    · rw [Nat.testBit_lt_two_pow (Nat.lt_of_lt_of_le hS (Nat.pow_le_pow_right (by decide) (by omega)))]
      exact hhi l (by omega)
  · rw [nI_le' (by omega) (by omega)] at hc
    have hin : vp_in (nI i) 10 := nI_in' (by omega) (by omega)
    refine wp_bindE (has_eq (by omega)) ?_
    have e5 : g_i υ (nmM 0) 5 = g_i σ 101 5 := hu 101 5 rfl
    have key : ∀ (x y : Int32), x = (if S.testBit i then g_i σ 101 5 else g_i σ 103 i) → y = (if S.testBit i then who else g_i σ 105 i) → ∀ (τ : jS), τ = s_i (s_i υ 103 i x) 105 i y → ux wSo σ τ ∧ (∀ l, l < i + 1 → g_i τ 103 l = (if S.testBit l then g_i σ 101 5 else g_i σ 103 l) ∧ g_i τ 105 l = (if S.testBit l then who else g_i σ 105 l)) ∧ ∀ l, i + 1 ≤ l → g_i τ 103 l = g_i σ 103 l ∧ g_i τ 105 l = g_i σ 105 l := by
      rintro x y hx hy τ rfl
      refine ⟨ux_s (ux_s hu rfl) rfl, fun l hl => ?_, fun l hl => ?_⟩
      · rw [s_i_a (show (103 : Nat) ≠ 105 by decide)]
        by_cases hli : l = i
        · subst hli
          rw [s_i_eq, s_i_eq]; exact ⟨hx, hy⟩
        · rw [s_i_k hli, s_i_k hli, s_i_a (show (105 : Nat) ≠ 103 by decide)]
          exact hlo l (by omega)
      · rw [s_i_k (show l ≠ i by omega), s_i_k (show l ≠ i by omega), s_i_k (show l ≠ i by omega), s_i_k (show l ≠ i by omega)]
        exact hhi l (by omega)
    cases hbit : S.testBit i with
    | false =>
      rw [if_pos (by rfl), gd_t hin, bnd]
      unfold f_X11_sound_J55
      refine wp_gd hin (wp_bd (fun s4 h4 => ?_))
      refine wp_bindE (has_eq (by omega)) ?_
      rw [hbit, if_pos (by rfl), gd_t hin, bnd]
      unfold f_X11_sound_J84
      refine wp_gd hin (wp_bd (fun s7 h7 => wp_some ⟨by omega, nI_1 i, ?_⟩))
      rw [nI_cl (by omega)] at h4 h7
      refine key (g_i υ 103 i) (g_i s4 105 i) (by rw [hbit]; exact (hhi i (Nat.le_refl _)).1) (by
        rw [hbit, h4]
        exact (s_i_a (show (105 : Nat) ≠ 103 by decide)).trans (hhi i (Nat.le_refl _)).2) _ ?_
      rw [h7, h4]; rfl
    | true =>
      rw [if_neg (by decide), bnd, e5]
      unfold f_X11_sound_J55
      refine wp_gd hin (wp_bd (fun s4 h4 => ?_))
      refine wp_bindE (has_eq (by omega)) ?_
      rw [hbit, if_neg (by decide), bnd]
      unfold f_X11_sound_J84
      refine wp_gd hin (wp_bd (fun s7 h7 => wp_some ⟨by omega, nI_1 i, ?_⟩))
      rw [nI_cl (by omega)] at h4 h7
      refine key (g_i σ 101 5) who (by rw [hbit]; rfl) (by rw [hbit]; rfl) _ ?_
      rw [h7, h4]; rfl
theorem sound_c {n m : Nat} {p nt lo who : Int32} {σ : jS} (hS : RSite n m σ) (hN : RNow n σ) (hp : rg p 0 49) (hnt : rg nt 0 63) (hlo : rg lo 1 50) : wp (f_X11_sound nmM p nt lo who σ) (fun x => x.1 = nI (bs (hd σ 57 p.toInt nt.toInt lo.toInt) n) ∧ ux wSo σ x.2 ∧ ∀ l, l < 10 → g_i x.2 103 l = (if (bs (hd σ 57 p.toInt nt.toInt lo.toInt) n).testBit l then g_i σ 101 5 else g_i σ 103 l) ∧ g_i x.2 105 l = (if (bs (hd σ 57 p.toInt nt.toInt lo.toInt) n).testBit l then who else g_i σ 105 l)) := by
  unfold f_X11_sound
  have e : g_i σ (nmM 0) 15 = g_i σ 57 6 := hN.2.2.2.2.1
  refine wp_bindE (mwakes hS hN e hp hnt hlo) ?_
  refine wp_bind (wp_mono (sound_lp hS.1.1 hS.2.1.2.2.2.2 (bs_lt _ n)) (fun τ h => wp_some ⟨rfl, h⟩))
