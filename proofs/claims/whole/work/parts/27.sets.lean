theorem nle_lit {a l : Nat} (h : l < a) (ha : a < 2147483648) : ¬ nI a ≤ nI l := by rw [nI_le' ha (by omega)]; omega
theorem le0 {x : Int32} : x ≤ 0 ↔ x.toInt ≤ 0 := Int32.le_iff_toInt_le
theorem ge0 {x : Int32} : 0 ≤ x ↔ 0 ≤ x.toInt := Int32.le_iff_toInt_le
theorem lt0 {x : Int32} : x < 0 ↔ x.toInt < 0 := Int32.lt_iff_toInt_lt
theorem gt0 {x : Int32} : 0 < x ↔ 0 < x.toInt := Int32.lt_iff_toInt_lt
theorem ti_sub {a b : Int32} (h1 : -2147483648 ≤ a.toInt - b.toInt) (h2 : a.toInt - b.toInt < 2147483648) : (a - b).toInt = a.toInt - b.toInt := by
  rw [Int32.toInt_sub, Int.bmod_eq_of_le] <;> omega
theorem ti_add {a b : Int32} (h1 : -2147483648 ≤ a.toInt + b.toInt) (h2 : a.toInt + b.toInt < 2147483648) : (a + b).toInt = a.toInt + b.toInt := by
  rw [Int32.toInt_add, Int.bmod_eq_of_le] <;> omega
theorem ti_mul {a b : Int32} (h1 : -2147483648 ≤ a.toInt * b.toInt) (h2 : a.toInt * b.toInt < 2147483648) : (a * b).toInt = a.toInt * b.toInt := by
  rw [Int32.toInt_mul, Int.bmod_eq_of_le] <;> omega
theorem ti_abs {a : Int32} (h : -2147483648 < a.toInt) : (iabs a).toInt = a.toInt.natAbs := by
  unfold iabs
  by_cases h0 : 0 ≤ a
  · rw [if_pos h0]
    have h0 : (0 : Int) ≤ a.toInt := Int32.le_iff_toInt_le.mp h0
    omega
  · rw [if_neg h0]
    have h0 : ¬ (0 : Int) ≤ a.toInt := mt ge0.mpr h0
    have h9 := Int32.toInt_lt a
    rw [ti_sub] <;> rw [tl0] <;> omega
theorem size_eq {a : Int32} (h : -2147483648 < a.toInt) : ∃ v, f_X11_size a = some v ∧ v.toInt = a.toInt.natAbs := by
  unfold f_X11_size
  by_cases h0 : 0 ≤ a
  · rw [if_pos h0]
    have h0 : (0 : Int) ≤ a.toInt := Int32.le_iff_toInt_le.mp h0
    exact ⟨_, rfl, by omega⟩
  · rw [if_neg h0]
    have h0 : ¬ (0 : Int) ≤ a.toInt := mt ge0.mpr h0
    refine ⟨_, rfl, ?_⟩
    have h9 := Int32.toInt_lt a
    rw [Int32.toInt_neg, Int.bmod_eq_of_le] <;> omega
theorem mul_le2 {a b A B : Int} (h1 : 0 ≤ a) (h2 : a ≤ A) (h3 : 0 ≤ b) (h4 : b ≤ B) : 0 ≤ a * b ∧ a * b ≤ A * B := ⟨Int.mul_nonneg h1 h3, Int.mul_le_mul h2 h4 h3 (Int.le_trans h1 h2)⟩
/-! a set out of a loop -/
theorem nI_or (a b : Nat) : nI a ||| nI b = nI (a ||| b) := by
  show Int32.ofNat a ||| Int32.ofNat b = Int32.ofNat (a ||| b)
  apply Int32.toBitVec_inj.mp
  rw [Int32.toBitVec_or]
  show BitVec.ofNat 32 a ||| BitVec.ofNat 32 b = BitVec.ofNat 32 (a ||| b)
  apply BitVec.eq_of_toNat_eq
  rw [BitVec.toNat_or, BitVec.toNat_ofNat, BitVec.toNat_ofNat, BitVec.toNat_ofNat, Nat.or_mod_two_pow]
theorem bit_eq : ∀ l, l < 31 → ((1 : Int32) <<< (nI l &&& 31)) = nI (2 ^ l) := by decide +kernel
theorem or_two {a l : Nat} (h : a < 2 ^ l) : a ||| 2 ^ l = a + 2 ^ l := by
  have := Nat.two_pow_add_eq_or_of_lt h 1
  rw [Nat.mul_one] at this
  rw [Nat.or_comm, ← this, Nat.add_comm]
theorem bs_t {f : Nat → Bool} {i : Nat} (hi : i < 31) (h : f i = true) : nI (bs f i) ||| ((1 : Int32) <<< (nI i &&& 31)) = nI (bs f (i + 1)) := by
  rw [bit_eq i hi, nI_or, or_two (bs_lt f i)]
  show _ = nI (bs f i + (if f i then 2 ^ i else 0))
  rw [h]; rfl
theorem bs_f {f : Nat → Bool} {i : Nat} (h : f i = false) : bs f (i + 1) = bs f i := by
  show bs f i + (if f i then 2 ^ i else 0) = bs f i
  rw [h]; rfl
theorem bs_ext {f : Nat → Bool} {n : Nat} : ∀ {N : Nat}, n ≤ N → (∀ l, n ≤ l → l < N → f l = false) → bs f N = bs f n
  | 0, h, _ => by rw [show n = 0 by omega]
  | N + 1, h, hf => by
    by_cases hn : n = N + 1
    · rw [hn]
    · rw [bs_f (hf N (by omega) (by omega)), bs_ext (by omega) (fun l h1 h2 => hf l h1 (by omega))]
theorem or_zero (x : Int32) : x ||| 0 = x := by
  obtain ⟨j, hj, rfl⟩ := nI_w x
  show nI j ||| nI 0 = nI j
  rw [nI_or, Nat.or_zero]
/-- the names of a moment's cells -/
def momNm (nm : Nat → Nat) (b : Nat) : Prop := (nm 0 = b ∧ nm 1 = 31 ∧ nm 2 = 32 ∧ nm 3 = 33 ∧ nm 6 = 36 ∧ nm 7 = 37 ∧ nm 8 = 38 ∧ nm 9 = 39) ∧ nm 18 = b + 1 ∧ nm 19 = b + 2 ∧ nm 20 = b + 3 ∧ nm 21 = b + 4
theorem burning_eq {nm : Nat → Nat} {b : Nat} (hm : momNm nm b) (σ : jS) : f_X2_burning nm σ = some (nI (bs (fun l => decide (0 < (g_i σ (b + 2) l).toInt)) 10)) := by
  refine wp_eq ?_
  unfold f_X2_burning
  refine wp_bind ?_
  refine wp_up 10 (fun i s => s = (nI (bs (fun l => decide (0 < (g_i σ (b + 2) l).toInt)) i), nI i)) (i := 0) (by omega) (by omega) rfl ?_
  rintro i s hi rfl
  unfold f_X2_burning_L4
  show wp (if nI 10 ≤ nI i then _ else _) _
  refine wp_ite (fun hc => ?_) (fun hc => ?_)
  · rw [nI_le' (by omega) (by omega)] at hc
    have : i = 10 := by omega
    subst this
    exact wp_some (wp_some rfl)
  · rw [nI_le' (by omega) (by omega)] at hc
    refine wp_gd (nI_in' (by omega) (by omega)) ?_
    rw [nI_cl (by omega), hm.2.2.1]
    refine wp_ite (fun h0 => ?_) (fun h0 => ?_)
    · have h0 : (g_i σ (b + 2) i).toInt ≤ 0 := Int32.le_iff_toInt_le.mp h0
      refine wp_some ⟨by omega, ?_⟩
      rw [bs_f (decide_eq_false (by omega)), nI_1]
    · have h0 : ¬ (g_i σ (b + 2) i).toInt ≤ 0 := mt le0.mpr h0
      refine wp_bd (fun v hv => wp_some ⟨by omega, ?_⟩)
      rw [hv, bs_t (by omega) (decide_eq_true (by omega)), nI_1]
def seenf (σ : jS) (b l : Nat) : Bool := decide (0 < (g_i σ (b + 2) l).toInt) && decide ((g_i σ (b + 3) l).toInt < (g_i σ 31 9).toInt)
theorem seen_eq {nm : Nat → Nat} {b : Nat} (hm : momNm nm b) (σ : jS) : f_X2_seen nm σ = some (nI (bs (seenf σ b) 10)) := by
  refine wp_eq ?_
  unfold f_X2_seen
  refine wp_bind ?_
  refine wp_up 10 (fun i s => s = (nI (bs (seenf σ b) i), nI i)) (i := 0) (by omega) (by omega) rfl ?_
  rintro i s hi rfl
  unfold f_X2_seen_L4
  show wp (if nI 10 ≤ nI i then _ else _) _
  refine wp_ite (fun hc => ?_) (fun hc => ?_)
  · rw [nI_le' (by omega) (by omega)] at hc
    have : i = 10 := by omega
    subst this
    exact wp_some (wp_some rfl)
  · rw [nI_le' (by omega) (by omega)] at hc
    refine wp_gd (nI_in' (by omega) (by omega)) ?_
    rw [nI_cl (by omega), hm.2.2.1]
    refine wp_ite (fun h0 => ?_) (fun h0 => ?_)
    · have h0 : (g_i σ (b + 2) i).toInt ≤ 0 := Int32.le_iff_toInt_le.mp h0
      refine wp_some ⟨by omega, ?_⟩
      rw [bs_f (by unfold seenf; rw [decide_eq_false (show ¬ 0 < (g_i σ (b + 2) i).toInt by omega)]; rfl), nI_1]
    · have h0 : ¬ (g_i σ (b + 2) i).toInt ≤ 0 := mt le0.mpr h0
      refine wp_gd (nI_in' (by omega) (by omega)) ?_
      rw [hm.1.2.1, hm.2.2.2.1]
      refine wp_ite (fun h1 => ?_) (fun h1 => ?_)
      · have h1 := Int32.le_iff_toInt_le.mp h1
        refine wp_some ⟨by omega, ?_⟩
        rw [bs_f (by unfold seenf; rw [decide_eq_false (show ¬ (g_i σ (b + 3) i).toInt < (g_i σ 31 9).toInt by omega), Bool.and_false]), nI_1]
      · have h1 := mt Int32.le_iff_toInt_le.mpr h1
        refine wp_bd (fun v hv => wp_some ⟨by omega, ?_⟩)
        rw [hv, bs_t (by omega) (by unfold seenf; rw [decide_eq_true (show 0 < (g_i σ (b + 2) i).toInt by omega), decide_eq_true (show (g_i σ (b + 3) i).toInt < (g_i σ 31 9).toInt by omega)]; rfl), nI_1]
def litf (σ : jS) (sn : Int32) (l : Nat) : Bool := decide (0 < (g_i σ 103 l).toInt) && (decide (sn = 0) || decide ((g_i σ 104 l).toInt < (g_i σ 101 6).toInt))
theorem lit_eq {σ : jS} {n : Nat} (h : g_i σ 101 0 = nI n) (hn : n ≤ 10) (sn : Int32) : f_X11_litNow nmM sn σ = some (nI (bs (litf σ sn) n)) := by
  refine wp_eq ?_
  unfold f_X11_litNow
  refine wp_bind ?_
  refine wp_up n (fun i s => s = (nI (bs (litf σ sn) i), nI i)) (i := 0) (by omega) (by omega) rfl ?_
  rintro i s hi rfl
  unfold f_X11_litNow_L4
  show wp (if g_i σ 101 0 ≤ nI i then _ else _) _
  rw [h]
  refine wp_ite (fun hc => ?_) (fun hc => ?_)
  · rw [nI_le' (by omega) (by omega)] at hc
    have : i = n := by omega
    subst this
    exact wp_some (wp_some rfl)
  · rw [nI_le' (by omega) (by omega)] at hc
    refine wp_gd (nI_in' (by omega) (by omega)) ?_
    rw [nI_cl (by omega)]
    show wp (if g_i σ 103 i ≤ 0 then _ else _) _
    refine wp_ite (fun h0 => ?_) (fun h0 => ?_)
    · have h0 : (g_i σ 103 i).toInt ≤ 0 := Int32.le_iff_toInt_le.mp h0
      refine wp_bd (fun v hv => wp_some ⟨by omega, ?_⟩)
      rw [hv, or_zero, bs_f (by unfold litf; rw [decide_eq_false (show ¬ 0 < (g_i σ 103 i).toInt by omega)]; rfl), nI_1]
    · have h0 : ¬ (g_i σ 103 i).toInt ≤ 0 := mt le0.mpr h0
      have d0 : decide (0 < (g_i σ 103 i).toInt) = true := decide_eq_true (by omega)
      have hJ : litf σ sn i = true → f_X11_litNow_J39 nmM sn (nI i) (nI (bs (litf σ sn) i)) σ = some (.inl (nI (bs (litf σ sn) (i + 1)), nI (i + 1))) := by
        intro ht
        unfold f_X11_litNow_J39
        rw [bdx, bs_t (by omega) ht, nI_1]
      refine wp_ite (fun h1 => ?_) (fun h1 => ?_)
      · exact wp_of (hJ (by unfold litf; rw [d0, decide_eq_true h1]; rfl)) ⟨by omega, rfl⟩
      · refine wp_gd (nI_in' (by omega) (by omega)) ?_
        show wp (if g_i σ 101 6 ≤ g_i σ 104 i then _ else _) _
        refine wp_ite (fun h2 => ?_) (fun h2 => ?_)
        · have h2 := Int32.le_iff_toInt_le.mp h2
          refine wp_bd (fun v hv => wp_some ⟨by omega, ?_⟩)
          rw [hv, or_zero, bs_f (by unfold litf; rw [d0, decide_eq_false h1, decide_eq_false (show ¬ (g_i σ 104 i).toInt < (g_i σ 101 6).toInt by omega)]; rfl), nI_1]
        · have h2 := mt Int32.le_iff_toInt_le.mpr h2
          exact wp_of (hJ (by unfold litf; rw [d0, decide_eq_false h1, decide_eq_true (show (g_i σ 104 i).toInt < (g_i σ 101 6).toInt by omega)]; rfl)) ⟨by omega, rfl⟩
/-! what a sound wakes -/
theorem hd_eq {σ : jS} {b l : Nat} {p nt lo : Int} (ear : Int) (he : ear = (g_i σ (b + 1) l).toInt - (g_i σ 39 l).toInt * (g_i σ b 6).toInt) (hw : 0 ≤ (g_i σ 37 l).toInt) : hd σ b p nt lo l = (decide ((ear - nt).natAbs ≤ (g_i σ 37 l).toInt) && decide (((g_i σ 33 l).toInt - p).natAbs < lo)) := by
  unfold hd
  rw [← he]
  congr 1
  apply decide_eq_decide.mpr
  omega
def SoundOk (σ : jS) (b n : Nat) : Prop := n ≤ 10 ∧ g_i σ 32 1 = nI n ∧ g_i σ 36 1 = nI n ∧ g_i σ 38 1 = nI n ∧ (∀ l, l < n → rg (g_i σ 33 l) 0 49 ∧ rg (g_i σ 37 l) 0 9 ∧ rg (g_i σ 39 l) 0 5 ∧ rg (g_i σ (b + 1) l) 0 63) ∧ rg (g_i σ b 6) 0 9
theorem ear_eq {nm : Nat → Nat} {b n l : Nat} {σ : jS} (hm : momNm nm b) (hs : SoundOk σ b n) (hl : l < n) : ∃ v, f_X2_ear nm (nI l) σ = some v ∧ v = g_i σ (b + 1) l - g_i σ 39 l * g_i σ b 6 ∧ v.toInt = (g_i σ (b + 1) l).toInt - (g_i σ 39 l).toInt * (g_i σ b 6).toInt ∧ -45 ≤ v.toInt ∧ v.toInt ≤ 63 := by
  obtain ⟨hn, h1, h2, h3, h4, h5⟩ := hs
  obtain ⟨a1, a2, a3, a4⟩ := h4 l hl
  have hmul := mul_le2 a3.1 a3.2 h5.1 h5.2
  have hm1 : (g_i σ 39 l * g_i σ b 6).toInt = (g_i σ 39 l).toInt * (g_i σ b 6).toInt := ti_mul (by omega) (by omega)
  have hv : (g_i σ (b + 1) l - g_i σ 39 l * g_i σ b 6).toInt = (g_i σ (b + 1) l).toInt - (g_i σ 39 l).toInt * (g_i σ b 6).toInt := by
    obtain ⟨b1, b2⟩ := a4
    rw [ti_sub (by rw [hm1]; omega) (by rw [hm1]; omega), hm1]
  refine ⟨_, ?_, rfl, hv, ?_, ?_⟩
  · unfold f_X2_ear
    have hno : f_X2_noteOf nm (nI l) σ = some (g_i σ (b + 1) l) := by
      unfold f_X2_noteOf
      have n10 : ¬ (10 : Int32) ≤ nI l := nle_lit (a := 10) (by omega) (by omega)
      rw [if_neg (nI_neg0 (by omega)), if_neg n10, gd_t (nI_in' (by omega) (by omega)), nI_cl (by omega), hm.2.1]
    have hfl : f_X4_at (jn nm [8, 9]) 10 (nI l) σ = some (g_i σ 39 l) := by
      have e0 : jn nm [8, 9] 0 = 38 := hm.1.2.2.2.2.2.2.1
      have e1 : jn nm [8, 9] 1 = 39 := hm.1.2.2.2.2.2.2.2
      have := row_atI (nm := jn nm [8, 9]) (σ := σ) (n := n) (N := 10) (k := l) (by rw [e0]; exact h3) hn (by omega) hl
      rw [e1] at this
      exact this
    rw [hno, bnd, hfl, bnd, hm.1.1]
  · obtain ⟨b1, b2⟩ := a4
    rw [hv]; omega
  · obtain ⟨b1, b2⟩ := a4
    rw [hv]; omega
theorem woken_eq {nm : Nat → Nat} {b n : Nat} {σ : jS} {p nt lo : Int32} (hm : momNm nm b) (hs : SoundOk σ b n) (hp : rg p 0 49) (hnt : rg nt 0 63) (hlo : rg lo 1 50) : f_X2_woken nm p nt lo σ = some (nI (bs (hd σ b p.toInt nt.toInt lo.toInt) n)) := by
  refine wp_eq ?_
  unfold f_X2_woken
  refine wp_bind ?_
  refine wp_up n (fun i s => s = (nI (bs (hd σ b p.toInt nt.toInt lo.toInt) i), nI i)) (i := 0) (by have := hs.1; omega) (by omega) rfl ?_
  rintro i s hi rfl
  have hn := hs.1
  unfold f_X2_woken_L6
  show wp ((f_X6_lamps _ σ).bind _) _
  have hla : f_X6_lamps (jn nm [1, 2, 3, 4, 5, 6, 7, 8, 9, 10, 11, 12, 13, 14, 15, 16, 17]) σ = some (nI n) := by
    show some (g_i σ (nm 2) 1) = _
    rw [hm.1.2.2.1, hs.2.1]
  refine wp_bindE hla ?_
  refine wp_ite (fun hc => ?_) (fun hc => ?_)
  · rw [nI_le' (by omega) (by omega)] at hc
    have : i = n := by omega
    subst this
    exact wp_some (wp_some rfl)
  · rw [nI_le' (by omega) (by omega)] at hc
    have hl : i < n := by omega
    obtain ⟨v, hv, -, hv2, hv3, hv4⟩ := ear_eq hm hs hl
    refine wp_bindE hv ?_
    have hwd : f_X4_at (jn nm [6, 7]) 10 (nI i) σ = some (g_i σ 37 i) := by
      have e0 : jn nm [6, 7] 0 = 36 := hm.1.2.2.2.2.1
      have e1 : jn nm [6, 7] 1 = 37 := hm.1.2.2.2.2.2.1
      have := row_atI (nm := jn nm [6, 7]) (σ := σ) (n := n) (N := 10) (k := i) (by rw [e0]; exact hs.2.2.1) hn (by omega) hl
      rw [e1] at this
      exact this
    have hpl : f_X4_at (jn nm [2, 3]) 10 (nI i) σ = some (g_i σ 33 i) := by
      have e0 : jn nm [2, 3] 0 = 32 := hm.1.2.2.1
      have e1 : jn nm [2, 3] 1 = 33 := hm.1.2.2.2.1
      have := row_atI (nm := jn nm [2, 3]) (σ := σ) (n := n) (N := 10) (k := i) (by rw [e0]; exact hs.2.1) hn (by omega) hl
      rw [e1] at this
      exact this
    refine wp_bindE hwd ?_
    obtain ⟨z1, z2, z3, z4⟩ := hs.2.2.2.2.1 i hl
    obtain ⟨z1a, z1b⟩ := z1
    obtain ⟨z2a, z2b⟩ := z2
    obtain ⟨p1, p2⟩ := hp
    obtain ⟨n1, n2⟩ := hnt
    have hsb : (v - nt).toInt = v.toInt - nt.toInt := ti_sub (by omega) (by omega)
    have hab := ti_abs (a := v - nt) (by omega)
    have hsp : (g_i σ 33 i - p).toInt = (g_i σ 33 i).toInt - p.toInt := ti_sub (by omega) (by omega)
    have hap := ti_abs (a := g_i σ 33 i - p) (by omega)
    have hhd := hd_eq (p := p.toInt) (nt := nt.toInt) (lo := lo.toInt) v.toInt hv2 z2a
    have hno : hd σ b p.toInt nt.toInt lo.toInt i = false → some (Sum.inl (nI (bs (hd σ b p.toInt nt.toInt lo.toInt) i), nI i + 1) : (Int32 × Int32) ⊕ Int32) = some (.inl (nI (bs (hd σ b p.toInt nt.toInt lo.toInt) (i + 1)), nI (i + 1))) := by
      intro hf
      rw [bs_f hf, nI_1]
    by_cases c1 : g_i σ 37 i < iabs (v - nt)
    · rw [if_pos c1]
      refine wp_bindE rfl ?_
      have c1 := Int32.lt_iff_toInt_lt.mp c1
      unfold f_X2_woken_J49
      rw [if_pos rfl]
      refine wp_of (hno ?_) ⟨hl, rfl⟩
      rw [hhd, decide_eq_false (show ¬ (((v.toInt - nt.toInt).natAbs : Int) ≤ (g_i σ 37 i).toInt) by omega)]
      rfl
    · rw [if_neg c1]
      refine wp_bindE rfl ?_
      have c1 := mt Int32.lt_iff_toInt_lt.mpr c1
      have d1 : decide (((v.toInt - nt.toInt).natAbs : Int) ≤ (g_i σ 37 i).toInt) = true := decide_eq_true (by omega)
      unfold f_X2_woken_J49
      rw [if_neg i10]
      refine wp_bindE hpl ?_
      refine wp_ite (fun c2 => ?_) (fun c2 => ?_)
      · have c2 := Int32.le_iff_toInt_le.mp c2
        refine wp_of (hno ?_) ⟨hl, rfl⟩
        rw [hhd, d1, decide_eq_false (show ¬ ((((g_i σ 33 i).toInt - p.toInt).natAbs : Int) < lo.toInt) by omega)]
        rfl
      · have c2 := mt Int32.le_iff_toInt_le.mpr c2
        refine wp_bd (fun x hx => wp_some ⟨hl, ?_⟩)
        rw [hx, bs_t (by omega), nI_1]
        rw [hhd, d1, decide_eq_true (show ((((g_i σ 33 i).toInt - p.toInt).natAbs : Int) < lo.toInt) by omega)]
        rfl
def hdg (pl wd fl nte cold p nt lo : Int) : Bool := decide (((nte - fl * cold - nt).natAbs : Int) ≤ wd) && decide (((pl - p).natAbs : Int) < lo)
def hdm (σ : jS) (cold p nt lo : Int) (l : Nat) : Bool := hdg (g_i σ 102 (4 * l)).toInt (g_i σ 102 (4 * l + 2)).toInt (g_i σ 102 (4 * l + 3)).toInt (g_i σ 102 (4 * l + 1)).toInt cold p nt lo
theorem nI_4 {l N : Nat} (h : 4 * l < N) (hN : N < 100000) : vp_in (4 * nI l) N := by
  show vp_in (nI 4 * nI l) N
  rw [nI_mul]; exact nI_in' h (by omega)
theorem nI_4c {l : Nat} (h : 4 * l < 100000) : (4 * nI l).toNatClampNeg = 4 * l := by
  show (nI 4 * nI l).toNatClampNeg = _
  rw [nI_mul, nI_cl (by omega)]
theorem wakesBy_eq {n : Nat} {σ : jS} {p nt lo cold : Int32} (hn : n ≤ 10) (h0 : g_i σ 101 0 = nI n) (hv : ∀ l, l < n → rg (g_i σ 102 (4 * l)) 0 49 ∧ rg (g_i σ 102 (4 * l + 1)) 0 63 ∧ rg (g_i σ 102 (4 * l + 2)) 0 9 ∧ rg (g_i σ 102 (4 * l + 3)) 0 5) (hc : rg cold 0 9) (hp : rg p 0 49) (hnt : rg nt 0 63) (hlo : rg lo 1 50) : f_X11_wakesBy nmM p nt lo cold σ = some (nI (bs (hdm σ cold.toInt p.toInt nt.toInt lo.toInt) n)) := by
  refine wp_eq ?_
  unfold f_X11_wakesBy
  refine wp_bind ?_
  refine wp_up n (fun i s => s = (nI (bs (hdm σ cold.toInt p.toInt nt.toInt lo.toInt) i), nI i)) (i := 0) (by omega) (by omega) rfl ?_
  rintro i s hi rfl
  unfold f_X11_wakesBy_L6
  show wp (if g_i σ 101 0 ≤ nI i then _ else _) _
  rw [h0]
  refine wp_ite (fun hc2 => ?_) (fun hc2 => ?_)
  · rw [nI_le' (by omega) (by omega)] at hc2
    have : i = n := by omega
    subst this
    exact wp_some (wp_some rfl)
  · rw [nI_le' (by omega) (by omega)] at hc2
    have hl : i < n := by omega
    obtain ⟨⟨a1, a2⟩, ⟨b1, b2⟩, ⟨c1, c2⟩, d1, d2⟩ := hv i hl
    obtain ⟨p1, p2⟩ := hp
    obtain ⟨n1, n2⟩ := hnt
    have hmul := mul_le2 d1 d2 hc.1 hc.2
    have hm1 : (g_i σ 102 (4 * i + 3) * cold).toInt = (g_i σ 102 (4 * i + 3)).toInt * cold.toInt := ti_mul (by omega) (by omega)
    have hear : f_X11_earOf nmM (nI i) cold σ = some (g_i σ 102 (4 * i + 1) - g_i σ 102 (4 * i + 3) * cold) := by
      unfold f_X11_earOf
      have e1 : (4 * nI i + 1).toNatClampNeg = 4 * i + 1 := nI_41c (c := 1) (by omega)
      have e3 : (4 * nI i + 3).toNatClampNeg = 4 * i + 3 := nI_41c (c := 3) (by omega)
      have g1 : vp_in (4 * nI i + 1) 40 := nI_41 (c := 1) (by omega) (by omega)
      have g3 : vp_in (4 * nI i + 3) 40 := nI_41 (c := 3) (by omega) (by omega)
      rw [gd_t g1, gd_t g3, e1, e3]
      rfl
    have hev : (g_i σ 102 (4 * i + 1) - g_i σ 102 (4 * i + 3) * cold).toInt = (g_i σ 102 (4 * i + 1)).toInt - (g_i σ 102 (4 * i + 3)).toInt * cold.toInt := by
      rw [ti_sub (by rw [hm1]; omega) (by rw [hm1]; omega), hm1]
    refine wp_bindE hear ?_
    generalize hz : g_i σ 102 (4 * i + 1) - g_i σ 102 (4 * i + 3) * cold = v at hev
    have hsb : (v - nt).toInt = v.toInt - nt.toInt := ti_sub (by omega) (by omega)
    obtain ⟨w, hw1, hw2⟩ := size_eq (a := v - nt) (by omega)
    refine wp_bindE hw1 ?_
    have e2 : (4 * nI i + 2).toNatClampNeg = 4 * i + 2 := nI_41c (c := 2) (by omega)
    refine wp_gd (nI_41 (c := 2) (by omega) (by omega)) ?_
    rw [e2]
    have hJ0 : hdm σ cold.toInt p.toInt nt.toInt lo.toInt i = false → f_X11_wakesBy_J65 nmM p nt lo cold (nI (bs (hdm σ cold.toInt p.toInt nt.toInt lo.toInt) i)) (nI i) 0 σ = some (.inl (nI (bs (hdm σ cold.toInt p.toInt nt.toInt lo.toInt) (i + 1)), nI (i + 1))) := by
      intro hf
      unfold f_X11_wakesBy_J65
      rw [if_pos rfl, bdx, or_zero, bs_f hf, nI_1]
    have hJ1 : hdm σ cold.toInt p.toInt nt.toInt lo.toInt i = true → f_X11_wakesBy_J65 nmM p nt lo cold (nI (bs (hdm σ cold.toInt p.toInt nt.toInt lo.toInt) i)) (nI i) 1 σ = some (.inl (nI (bs (hdm σ cold.toInt p.toInt nt.toInt lo.toInt) (i + 1)), nI (i + 1))) := by
      intro hf
      unfold f_X11_wakesBy_J65
      rw [if_neg i10, bdx, bs_t (by omega) hf, nI_1]
    by_cases q1 : g_i σ (nmM 1) (4 * i + 2) < w
    · rw [if_pos q1]
      refine wp_bindE rfl ?_
      have q1 : (g_i σ 102 (4 * i + 2)).toInt < w.toInt := Int32.lt_iff_toInt_lt.mp q1
      refine wp_of (hJ0 ?_) ⟨hl, rfl⟩
      unfold hdm hdg
      rw [decide_eq_false (by omega)]
      rfl
    · rw [if_neg q1]
      have q1 : ¬ (g_i σ 102 (4 * i + 2)).toInt < w.toInt := mt Int32.lt_iff_toInt_lt.mpr q1
      have dd : decide (((((g_i σ 102 (4 * i + 1)).toInt - (g_i σ 102 (4 * i + 3)).toInt * cold.toInt - nt.toInt).natAbs : Nat) : Int) ≤ (g_i σ 102 (4 * i + 2)).toInt) = true := decide_eq_true (by omega)
      rw [gd_t (nI_4 (by omega) (by omega)), nI_4c (by omega)]
      have hsp : (g_i σ 102 (4 * i) - p).toInt = (g_i σ 102 (4 * i)).toInt - p.toInt := ti_sub (by omega) (by omega)
      obtain ⟨u, hu1, hu2⟩ := size_eq (a := g_i σ 102 (4 * i) - p) (by omega)
      have hu1 : f_X11_size (g_i σ (nmM 1) (4 * i) - p) = some u := hu1
      rw [hu1, bnd]
      by_cases q2 : lo ≤ u
      · rw [if_pos q2]
        refine wp_bindE rfl ?_
        have q2 := Int32.le_iff_toInt_le.mp q2
        refine wp_of (hJ0 ?_) ⟨hl, rfl⟩
        unfold hdm hdg
        rw [dd, decide_eq_false (by omega)]
        rfl
      · rw [if_neg q2]
        refine wp_bindE rfl ?_
        have q2 := mt Int32.le_iff_toInt_le.mpr q2
        refine wp_of (hJ1 ?_) ⟨hl, rfl⟩
        unfold hdm hdg
        rw [dd, decide_eq_true (by omega)]
        rfl
