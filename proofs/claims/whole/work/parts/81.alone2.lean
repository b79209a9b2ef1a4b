/-! alone: one lamp after the other, class side -/
def Kx (nt : Nat → Nat) (l : Nat) : Nat := nt l * 16 + l
def OrdOk (nt : Nat → Nat) (nL : Nat) (ord : Nat → Nat) : Prop := (∀ i, i < nL → ord i < nL) ∧ (∀ i j, i < j → j < nL → Kx nt (ord i) < Kx nt (ord j)) ∧ (∀ l, l < nL → ∃ i, i < nL ∧ ord i = l)
theorem ord_inj {nt : Nat → Nat} {nL : Nat} {ord : Nat → Nat} (h : OrdOk nt nL ord) {i j : Nat} (hi : i < nL) (hj : j < nL) (e : ord i = ord j) : i = j := by
  rcases Nat.lt_trichotomy i j with h1 | h1 | h1
  · have := h.2.1 i j h1 hj; rw [e] at this; omega
  · exact h1
  · have := h.2.1 j i h1 hi; rw [e] at this; omega
theorem ord_one {nt : Nat → Nat} {nL : Nat} {ord ord' : Nat → Nat} (hn : nL ≤ 10) (h : OrdOk nt nL ord) (h' : OrdOk nt nL ord') : ∀ i, i < nL → ord i = ord' i := by
  intro i
  induction i using Nat.strongRecOn with
  | _ i ih =>
    intro hi
    have le : ∀ {o : Nat → Nat}, OrdOk nt nL o → ∀ a b, a ≤ b → b < nL → Kx nt (o a) ≤ Kx nt (o b) := fun {o} ho a b hab hb => by
      by_cases e : a = b
      · rw [e]; exact Nat.le_refl _
      · exact Nat.le_of_lt (ho.2.1 a b (by omega) hb)
    obtain ⟨j, hj, ej⟩ := h'.2.2 (ord i) (h.1 i hi)
    obtain ⟨j', hj', ej'⟩ := h.2.2 (ord' i) (h'.1 i hi)
    have hji : i ≤ j := Nat.le_of_not_lt (fun hlt => by
      have := ih j hlt hj
      rw [ej] at this
      have := ord_inj h hj hi this
      omega)
    have hji' : i ≤ j' := Nat.le_of_not_lt (fun hlt => by
      have e1 := ih j' hlt hj'
      rw [ej'] at e1
      have := ord_inj h' hi hj' e1
      omega)
    have a1 := le h' i j hji hj
    rw [ej] at a1
    have a2 := le h i j' hji' hj'
    rw [ej'] at a2
    have b1 := h.1 i hi
    have b2 := h'.1 i hi
    unfold Kx at a1 a2
    omega
theorem fsN_ge (P : Nat → Bool) : ∀ f i, i ≤ fsN P f i ∧ fsN P f i ≤ i + f
  | 0, i => ⟨Nat.le_refl _, Nat.le_refl _⟩
  | f + 1, i => by
    unfold fsN
    have := fsN_ge P f (i + 1)
    by_cases h : P i = true
    · rw [if_pos h]; omega
    · rw [if_neg h]; omega
theorem fsN_cong {P Q : Nat → Bool} : ∀ f i, (∀ t, P t = Q t) → fsN P f i = fsN Q f i
  | 0, _, _ => rfl
  | f + 1, i, h => by
    unfold fsN
    rw [h i, fsN_cong f (i + 1) h]
def nxT (nt ord : Nat → Nat) (tb : Nat → Nat → Nat → Nat → Bool) (k b : Nat) (h : Nat → Nat) : Nat := fsN (fun t => !(anyB (fun i => tb (ord k) t (ord i) (h (ord i))) k)) (64 - max (nt (ord k)) b) (max (nt (ord k)) b)
def udN (h : Nat → Nat) (i v : Nat) : Nat → Nat := fun k => if k = i then v else h k
def alP (nt ord : Nat → Nat) (tb : Nat → Nat → Nat → Nat → Bool) : Nat → Option (Nat × Nat × (Nat → Nat))
  | 0 => some (0, 0, fun _ => 0)
  | k + 1 => (alP nt ord tb k).bind (fun x => if nxT nt ord tb k x.2.1 x.2.2 < 64 then some (x.1 + (nxT nt ord tb k x.2.1 x.2.2 - nt (ord k)), nxT nt ord tb k x.2.1 x.2.2, udN x.2.2 (ord k) (nxT nt ord tb k x.2.1 x.2.2)) else none)
theorem alP_s {nt ord : Nat → Nat} {tb : Nat → Nat → Nat → Nat → Bool} {k s b : Nat} {h : Nat → Nat} (e : alP nt ord tb k = some (s, b, h)) : alP nt ord tb (k + 1) = if nxT nt ord tb k b h < 64 then some (s + (nxT nt ord tb k b h - nt (ord k)), nxT nt ord tb k b h, udN h (ord k) (nxT nt ord tb k b h)) else none := by
  show (alP nt ord tb k).bind _ = _
  rw [e]; rfl
theorem alP_none {nt ord : Nat → Nat} {tb : Nat → Nat → Nat → Nat → Bool} {k : Nat} (e : alP nt ord tb k = none) : ∀ m, alP nt ord tb (k + m) = none
  | 0 => e
  | m + 1 => by
    show (alP nt ord tb (k + m)).bind _ = _
    rw [alP_none e m]; rfl
/-- those that are done: the first k -/
def DoneOk (nL : Nat) (ord : Nat → Nat) (k D : Nat) : Prop := D < 2 ^ nL ∧ ∀ x, x < nL → (D.testBit x = true ↔ ∃ i, i < k ∧ ord i = x)
theorem lowest_c {nm : Nat → Nat} {nL k D : Nat} {nt ord : Nat → Nat} {σ : jS} (hm : filN2 nm) (hn : nL ≤ 10) (h32 : g_i σ 32 1 = nI nL) (hnt : ∀ l, l < nL → g_i σ 58 l = nI (nt l) ∧ nt l ≤ 63) (hO : OrdOk nt nL ord) (hk : k < nL) (hD : DoneOk nL ord k D) : f_X0_lowestBut nm (nI D) σ = some (nI (ord k)) := by
  have m19 : nm 19 = 58 := hm.2.2.2.2.2.2.2.2.1
  have m2 : nm 2 = 32 := hm.2.1
  refine wp_eq ?_
  unfold f_X0_lowestBut
  refine wp_bind ?_
  refine wp_up nL (fun i s => s.2 = nI i ∧ ((s.1 = -1 ∧ ∀ x, x < i → D.testBit x = true) ∨ ∃ b, b < i ∧ s.1 = nI b ∧ D.testBit b = false ∧ ∀ x, x < i → D.testBit x = false → Kx nt b ≤ Kx nt x)) (i := 0) (by omega) (by omega) ⟨rfl, Or.inl ⟨rfl, fun x hx => absurd hx (Nat.not_lt_zero x)⟩⟩ ?_
  rintro i ⟨v2, v3⟩ hi ⟨hv, hc0⟩
  have hv : v3 = nI i := hv
  subst hv
  have hc0 : (v2 = -1 ∧ ∀ x, x < i → D.testBit x = true) ∨ ∃ b, b < i ∧ v2 = nI b ∧ D.testBit b = false ∧ ∀ x, x < i → D.testBit x = false → Kx nt b ≤ Kx nt x := hc0
  unfold f_X0_lowestBut_L4
  have hla : f_X6_lamps (jn nm [1, 2, 3, 4, 5, 6, 7, 8, 9, 10, 11, 12, 13, 14, 15, 16, 17]) σ = some (nI nL) := by
    show some (g_i σ (nm 2) 1) = _
    rw [m2, h32]
  show wp ((f_X6_lamps (jn nm [1, 2, 3, 4, 5, 6, 7, 8, 9, 10, 11, 12, 13, 14, 15, 16, 17]) σ).bind _) _
  refine wp_bindE hla ?_
  have hkD : D.testBit (ord k) = false := Bool.eq_false_iff.mpr (fun e => by
    obtain ⟨j, hj, ej⟩ := (hD.2 (ord k) (hO.1 k hk)).mp e
    have := ord_inj hO (by omega) hk ej
    omega)
  refine wp_ite (fun hc => ?_) (fun hc => ?_)
  · rw [nI_le' (by omega) (by omega)] at hc
    have : i = nL := by omega
    subst this
    refine wp_some (wp_some ?_)
    rcases hc0 with ⟨-, h⟩ | ⟨b, hb, hvb, hbD, hmin⟩
    · rw [h _ (hO.1 k hk)] at hkD; cases hkD
    · have a1 := hmin _ (hO.1 k hk) hkD
      obtain ⟨j, hj, ej⟩ := hO.2.2 b hb
      have hjk : k ≤ j := Nat.le_of_not_lt (fun hlt => by
        rw [(hD.2 b hb).mpr ⟨j, hlt, ej⟩] at hbD; cases hbD)
      by_cases e : j = k
      · rw [hvb, ← ej, e]
      · have := hO.2.1 k j (by omega) hj
        rw [ej] at this; omega
  · rw [nI_le' (by omega) (by omega)] at hc
    have no : ∀ l, l < nL → f_X2_noteOf (jn nm [18, 1, 2, 3, 4, 5, 6, 7, 8, 9, 10, 11, 12, 13, 14, 15, 16, 17, 19, 20, 21, 22]) (nI l) σ = some (nI (nt l)) := fun l hl => by rw [note_c (by exact m19) (by omega), (hnt l hl).1]
    rw [bit0 (by omega)]
    cases hb : D.testBit i with
    | true =>
      rw [if_neg (show ¬ (if true = true then (1 : Int32) else 0) = 0 by decide)]
      refine wp_some ⟨by omega, nI_1 i, ?_⟩
      rcases hc0 with ⟨h1, h2⟩ | ⟨b, b1, b2, b3, b4⟩
      · refine Or.inl ⟨h1, fun x hx => ?_⟩
        by_cases e : x = i
        · rw [e]; exact hb
        · exact h2 x (by omega)
      · refine Or.inr ⟨b, by omega, b2, b3, fun x hx hxD => ?_⟩
        by_cases e : x = i
        · rw [e, hb] at hxD; cases hxD
        · exact b4 x (by omega) hxD
    | false =>
      rw [if_pos (show (if false = true then (1 : Int32) else 0) = 0 by decide)]
      rcases hc0 with ⟨h1, h2⟩ | ⟨b, b1, b2, b3, b4⟩
      · rw [if_pos h1]
        refine wp_some ⟨by omega, nI_1 i, Or.inr ⟨i, by omega, rfl, hb, fun x hx hxD => ?_⟩⟩
        by_cases e : x = i
        · rw [e]; exact Nat.le_refl _
        · rw [h2 x (by omega)] at hxD; cases hxD
      · rw [if_neg (by
          rw [b2]
          intro e
          have e := congrArg Int32.toInt e
          rw [nI_ti (by omega)] at e
          have z : (-1 : Int32).toInt = -1 := by decide
          rw [z] at e; omega), b2]
        refine wp_bindE (no i (by omega)) (wp_bindE (no b (by omega)) ?_)
        have n1 := (hnt i (by omega)).2
        have n2 := (hnt b (by omega)).2
        refine wp_ite (fun hle => ?_) (fun hle => ?_)
        · rw [nI_le' (by omega) (by omega)] at hle
          refine wp_some ⟨by omega, nI_1 i, Or.inr ⟨b, by omega, rfl, b3, fun x hx hxD => ?_⟩⟩
          by_cases e : x = i
          · rw [e]; unfold Kx; omega
          · exact b4 x (by omega) hxD
        · rw [nI_le' (by omega) (by omega)] at hle
          refine wp_some ⟨by omega, nI_1 i, Or.inr ⟨i, by omega, rfl, hb, fun x hx hxD => ?_⟩⟩
          by_cases e : x = i
          · rw [e]; exact Nat.le_refl _
          · have := b4 x (by omega) hxD
            unfold Kx at this ⊢; omega
theorem nxT_c {nL k b D : Nat} {nt ord h : Nat → Nat} {tb : Nat → Nat → Nat → Nat → Bool} (hn : nL ≤ 10) (hO : OrdOk nt nL ord) (hk : k < nL) (hD : DoneOk nL ord k D) : fsN (fun t => !(anyB (fun o => D.testBit o && tb (ord k) t o (h o)) 10)) (64 - max (nt (ord k)) b) (max (nt (ord k)) b) = nxT nt ord tb k b h := by
  refine fsN_cong _ _ (fun t => ?_)
  show (!(anyB (fun o => D.testBit o && tb (ord k) t o (h o)) 10)) = !(anyB (fun i => tb (ord k) t (ord i) (h (ord i))) k)
  congr 1
  rw [Bool.eq_iff_iff, anyB_iff, anyB_iff]
  constructor
  · rintro ⟨o, ho, hb⟩
    obtain ⟨h1, h2⟩ := Bool.and_eq_true_iff.mp hb
    have hoL : o < nL := Nat.lt_of_not_le (fun hle => by
      rw [Nat.testBit_lt_two_pow (Nat.lt_of_lt_of_le hD.1 (Nat.pow_le_pow_right (by decide) hle))] at h1; cases h1)
    obtain ⟨i, hi, rfl⟩ := (hD.2 o hoL).mp h1
    exact ⟨i, hi, h2⟩
  · rintro ⟨i, hi, h2⟩
    have hoL := hO.1 i (by omega)
    exact ⟨ord i, by omega, Bool.and_eq_true_iff.mpr ⟨(hD.2 _ hoL).mpr ⟨i, hi, rfl⟩, h2⟩⟩
theorem part_c {nm : Nat → Nat} {nL : Nat} {nt ord : Nat → Nat} {pl wd fl : Nat → Int} {fr lo : Int} {σ : jS} (hm : filN2 nm) (hL : LOk σ nL pl wd fl fr lo) (hnt : ∀ l, l < nL → g_i σ 58 l = nI (nt l) ∧ nt l ≤ 63) (hO : OrdOk nt nL ord) : ∃ r τ, f_X0_partAll nm σ = some (r, τ) ∧ ux (fun a _ => decide (a = 99)) σ τ ∧ ((alP nt ord (TB pl wd fl fr lo) nL = none ∧ r = -1) ∨ ∃ s b h, alP nt ord (TB pl wd fl fr lo) nL = some (s, b, h) ∧ s ≤ 630 ∧ r = nI s ∧ ∀ i, i < nL → g_i τ 99 (ord i) = nI (h (ord i))) := by
  have hn := hL.1
  have m2 : nm 2 = 32 := hm.2.1
  have m19 : nm 19 = 58 := hm.2.2.2.2.2.2.2.2.1
  have m23 : nm 23 = 99 := hm.2.2.2.2.2.2.2.2.2
  suffices wp (f_X0_partAll nm σ) (fun x => ux (fun a _ => decide (a = 99)) σ x.2 ∧ ((alP nt ord (TB pl wd fl fr lo) nL = none ∧ x.1 = -1) ∨ ∃ s b h, alP nt ord (TB pl wd fl fr lo) nL = some (s, b, h) ∧ s ≤ 630 ∧ x.1 = nI s ∧ ∀ i, i < nL → g_i x.2 99 (ord i) = nI (h (ord i)))) by
    obtain ⟨⟨r, τ⟩, e, h⟩ := this
    exact ⟨r, τ, e, h⟩
  unfold f_X0_partAll
  refine wp_bind ?_
  refine wp_up nL (fun k x => ∃ s D b h, x.1 = nI s ∧ x.2.1 = nI D ∧ x.2.2.1 = nI b ∧ x.2.2.2.1 = nI k ∧ ux (fun a _ => decide (a = 99)) σ x.2.2.2.2 ∧ alP nt ord (TB pl wd fl fr lo) k = some (s, b, h) ∧ DoneOk nL ord k D ∧ s ≤ 63 * k ∧ b ≤ 63 ∧ ∀ i, i < k → g_i x.2.2.2.2 99 (ord i) = nI (h (ord i)) ∧ h (ord i) ≤ 63) (i := 0) (by omega) (by omega) ⟨0, 0, 0, _, rfl, rfl, rfl, rfl, ux_refl _ _, rfl, ⟨Nat.two_pow_pos nL, fun x hx => ⟨fun e => (by rw [Nat.zero_testBit] at e; cases e), fun ⟨i, hi, _⟩ => absurd hi (Nat.not_lt_zero i)⟩⟩, by omega, by omega, fun i hi => absurd hi (Nat.not_lt_zero i)⟩ ?_
  rintro k ⟨v1, v2, v3, v4, τ⟩ hk ⟨s, D, b, h, q1, q2, q3, q4, hu, hal, hD, hs, hb, hh⟩
  have q1 : v1 = nI s := q1
  have q2 : v2 = nI D := q2
  have q3 : v3 = nI b := q3
  have q4 : v4 = nI k := q4
  have hu : ux (fun a _ => decide (a = 99)) σ τ := hu
  have hh : ∀ i, i < k → g_i τ 99 (ord i) = nI (h (ord i)) ∧ h (ord i) ≤ 63 := hh
  subst q1 q2 q3 q4
  unfold f_X0_partAll_L9
  have hLτ : LOk τ nL pl wd fl fr lo := hL.cg hu (fun a k h1 h2 => decide_eq_false (by omega))
  have hla : f_X6_lamps (jn nm [1, 2, 3, 4, 5, 6, 7, 8, 9, 10, 11, 12, 13, 14, 15, 16, 17]) τ = some (nI nL) := by
    show some (g_i τ (nm 2) 1) = _
    rw [m2, hLτ.2.1]
  show wp ((f_X6_lamps (jn nm [1, 2, 3, 4, 5, 6, 7, 8, 9, 10, 11, 12, 13, 14, 15, 16, 17]) τ).bind _) _
  refine wp_bindE hla ?_
  refine wp_ite (fun hc => ?_) (fun hc => ?_)
  · rw [nI_le' (by omega) (by omega)] at hc
    have : k = nL := by omega
    subst this
    exact wp_some (wp_some ⟨hu, Or.inr ⟨s, b, h, hal, by omega, rfl, fun i hi => (hh i hi).1⟩⟩)
  · rw [nI_le' (by omega) (by omega)] at hc
    have hkn : k < nL := by omega
    have hntτ : ∀ l, l < nL → g_i τ 58 l = nI (nt l) ∧ nt l ≤ 63 := fun l hl => by rw [hu 58 l rfl]; exact hnt l hl
    have hok := hO.1 k hkn
    refine wp_bindE (lowest_c hm hn hLτ.2.1 hntτ hO hkn hD) ?_
    have en : f_X2_noteOf (jn nm [18, 1, 2, 3, 4, 5, 6, 7, 8, 9, 10, 11, 12, 13, 14, 15, 16, 17, 19, 20, 21, 22]) (nI (ord k)) τ = some (nI (nt (ord k))) := by rw [note_c (by exact m19) (by omega), (hntτ _ hok).1]
    have hnl := (hnt _ hok).2
    refine wp_bindE en ?_
    have emx : imax (nI (nt (ord k))) (nI b) = nI (max (nt (ord k)) b) := by
      apply Int32.toInt_inj.mp
      rw [ti_max, nI_ti (by omega), nI_ti (by omega), nI_ti (by omega)]; omega
    rw [emx]
    refine wp_bindE (xfree (h := h) hm hLτ hok (by omega) hD.1 (fun o ho hoD => by
      obtain ⟨i, hi, rfl⟩ := (hD.2 o ho).mp hoD
      exact hh i hi)) ?_
    rw [nxT_c (tb := TB pl wd fl fr lo) hn hO hkn hD]
    have hge := fsN_ge (fun t => !(anyB (fun i => TB pl wd fl fr lo (ord k) t (ord i) (h (ord i))) k)) (64 - max (nt (ord k)) b) (max (nt (ord k)) b)
    have hge : max (nt (ord k)) b ≤ nxT nt ord (TB pl wd fl fr lo) k b h ∧ nxT nt ord (TB pl wd fl fr lo) k b h ≤ max (nt (ord k)) b + (64 - max (nt (ord k)) b) := hge
    have hal2 := alP_s hal
    generalize nxT nt ord (TB pl wd fl fr lo) k b h = t at hge hal2
    by_cases ht : t < 64
    · rw [if_pos ht] at hal2 ⊢
      have ne1 : ¬ nI t = -1 := fun e => by
        have e := congrArg Int32.toInt e
        rw [nI_ti (by omega)] at e
        have z : (-1 : Int32).toInt = -1 := by decide
        rw [z] at e; omega
      rw [if_neg ne1, if_neg (nI_neg0 (by omega)), if_pos (show nI (ord k) < (10 : Int32) from (nI_lt' (b := 10) (by omega) (by omega)).mpr (by omega))]
      refine wp_gd (nI_in' (by omega) (by omega)) (wp_bd (fun s5 h5 => wp_bd (fun x6 h6 => wp_bd (fun x7 h7 => wp_some ⟨hkn, s + (t - nt (ord k)), D ||| 2 ^ ord k, t, udN h (ord k) t, ?_, ?_, rfl, nI_1 k, ?_, hal2, ?_, by omega, by omega, fun i hi => ?_⟩))))
      · show x6 = _
        rw [h6, nI_sb (by omega), nI_add]
      · show x7 = _
        rw [h7, nI_orb (by omega)]
      · show ux _ σ s5
        rw [h5, m23]; exact ux_s hu (decide_eq_true rfl)
      · refine ⟨or_lt2 hD.1 hok, fun x hx => ?_⟩
        rw [Nat.testBit_or, Nat.testBit_two_pow, Bool.or_eq_true, hD.2 x hx, decide_eq_true_iff]
        constructor
        · rintro (⟨i, hi, e⟩ | e)
          · exact ⟨i, by omega, e⟩
          · exact ⟨k, by omega, e⟩
        · rintro ⟨i, hi, e⟩
          by_cases hik : i = k
          · exact Or.inr (by rw [← hik]; exact e)
          · exact Or.inl ⟨i, by omega, e⟩
      · show g_i s5 99 (ord i) = nI (udN h (ord k) t (ord i)) ∧ udN h (ord k) t (ord i) ≤ 63
        rw [h5, m23, nI_cl (by omega)]
        unfold udN
        by_cases e : ord i = ord k
        · rw [e, if_pos rfl, s_i_eq]; exact ⟨rfl, by omega⟩
        · have hik : i ≠ k := fun z => e (by rw [z])
          rw [if_neg e, s_i_k e]
          exact hh i (by omega)
    · rw [if_neg ht] at hal2 ⊢
      rw [if_pos rfl]
      refine wp_some (wp_some ⟨hu, Or.inl ⟨?_, rfl⟩⟩)
      have := alP_none hal2 (nL - (k + 1))
      rw [show k + 1 + (nL - (k + 1)) = nL by omega] at this
      exact this
