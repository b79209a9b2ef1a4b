/-! sets without one another; rows of sets of which none holds another -/
def sd (a b : Nat) : Nat := a ^^^ (a &&& b)
theorem sd_bit (a b i : Nat) : (sd a b).testBit i = (a.testBit i && !b.testBit i) := by
  unfold sd
  rw [Nat.testBit_xor, Nat.testBit_and]
  cases a.testBit i <;> cases b.testBit i <;> rfl
theorem nI_sd (a b : Nat) : nI a &&& (nI b ^^^ (-1)) = nI (sd a b) := by
  apply Int32.toBitVec_inj.mp
  rw [Int32.toBitVec_and, Int32.toBitVec_xor]
  show BitVec.ofNat 32 a &&& (BitVec.ofNat 32 b ^^^ (-1 : Int32).toBitVec) = BitVec.ofNat 32 (sd a b)
  have h1 : (-1 : Int32).toBitVec = BitVec.allOnes 32 := by decide
  rw [h1]
  apply BitVec.eq_of_getLsbD_eq
  intro i hi
  rw [BitVec.getLsbD_and, BitVec.getLsbD_xor, BitVec.getLsbD_ofNat, BitVec.getLsbD_ofNat, BitVec.getLsbD_ofNat, BitVec.getLsbD_allOnes, sd_bit, decide_eq_true hi]
  cases a.testBit i <;> cases b.testBit i <;> rfl
def sub (a b : Nat) : Prop := sd a b = 0
theorem sub_iff {a b : Nat} : sub a b ↔ ∀ i, a.testBit i = true → b.testBit i = true := by
  unfold sub
  constructor
  · intro h i hi
    have := congrArg (fun z => z.testBit i) h
    simp only [sd_bit, Nat.zero_testBit] at this
    rw [hi] at this
    cases hb : b.testBit i with
    | true => rfl
    | false => rw [hb] at this; cases this
  · intro h
    apply Nat.eq_of_testBit_eq
    intro i
    rw [sd_bit, Nat.zero_testBit]
    cases ha : a.testBit i with
    | false => rfl
    | true => rw [h i ha]; rfl
theorem sub_refl (a : Nat) : sub a a := sub_iff.mpr (fun _ h => h)
theorem sub_trans {a b c : Nat} (h1 : sub a b) (h2 : sub b c) : sub a c := sub_iff.mpr (fun i h => sub_iff.mp h2 i (sub_iff.mp h1 i h))
theorem sub_antisymm {a b : Nat} (h1 : sub a b) (h2 : sub b a) : a = b := by
  apply Nat.eq_of_testBit_eq
  intro i
  rw [Bool.eq_iff_iff]
  exact ⟨sub_iff.mp h1 i, sub_iff.mp h2 i⟩
theorem sd_lt {a b n : Nat} (h : a < 2 ^ n) : sd a b < 2 ^ n := Nat.xor_lt_two_pow h (Nat.lt_of_le_of_lt Nat.and_le_left h)
theorem nI_sub {a b : Nat} (ha : a < 2 ^ 31) : (nI a &&& (nI b ^^^ (-1))) = 0 ↔ sub a b := by
  rw [nI_sd, nI_z (Nat.lt_of_lt_of_le (sd_lt (b := b) ha) (by decide))]
  rfl
theorem and_lt {a b n : Nat} (h : a < 2 ^ n) : a &&& b < 2 ^ n := Nat.lt_of_le_of_lt Nat.and_le_left h
def AC (a : Nat → Nat) (n : Nat) : Prop := ∀ i j, i < n → j < n → i ≠ j → ¬ sub (a i) (a j)
def RowS (c0 c1 : Nat) (a : Nat → Nat) (n : Nat) (σ : jS) : Prop := g_i σ c0 1 = nI n ∧ ∀ k, k < n → g_i σ c1 k = nI (a k) ∧ a k < 1024
theorem pil_c {nm : Nat → Nat} {c0 c1 N n x : Nat} {a : Nat → Nat} {σ : jS} (h0 : nm 0 = c0) (h1 : nm 1 = c1) (hne : c0 ≠ c1) (hN : N < 100000) (hn : n < N) (hx : x < 1024) (hr : RowS c0 c1 a n σ) (hac : AC a n) : ∃ τ n' a', f_X4_putIfLargest nm N (nI x) σ = some τ ∧ ux (wRc c0 c1) σ τ ∧ n' ≤ n + 1 ∧ RowS c0 c1 a' n' τ ∧ AC a' n' ∧ (∀ k, k < n' → a' k = x ∨ ∃ j, j < n ∧ a' k = a j) ∧ (∀ j, j < n → ∃ k, k < n' ∧ sub (a j) (a' k)) ∧ ∃ k, k < n' ∧ sub x (a' k) := by
  obtain ⟨r1, r2⟩ := hr
  have sd' : ∀ {u v : Nat}, u < 1024 → ((nI u &&& (nI v ^^^ (-1))) = 0 ↔ sub u v) := fun hu => nI_sub (Nat.lt_of_lt_of_le hu (by decide))
  -- first: is it held by one that is there
  have first : ∃ y, lp (f_X4_putIfLargest_L2 nm N (nI x) σ) fu 0 = some y ∧ ((y = .inr σ ∧ ∃ k, k < n ∧ sub x (a k)) ∨ (y = .inl () ∧ ∀ k, k < n → ¬ sub x (a k))) := by
    suffices wp (lp (f_X4_putIfLargest_L2 nm N (nI x) σ) fu 0) (fun y => (y = .inr σ ∧ ∃ k, k < n ∧ sub x (a k)) ∨ (y = .inl () ∧ ∀ k, k < n → ¬ sub x (a k))) by
      obtain ⟨y, e, h⟩ := this
      exact ⟨y, e, h⟩
    refine wp_up n (fun i s => s = nI i ∧ ∀ k, k < i → ¬ sub x (a k)) (i := 0) (by omega) (by omega) ⟨rfl, fun k hk => absurd hk (Nat.not_lt_zero k)⟩ ?_
    rintro i s hi ⟨rfl, hk⟩
    unfold f_X4_putIfLargest_L2
    rw [h0, r1]
    refine wp_ite (fun hc => ?_) (fun hc => ?_)
    · rw [nI_le' (by omega) (by omega)] at hc
      exact wp_some (Or.inr ⟨rfl, fun k h => hk k (by omega)⟩)
    · rw [nI_le' (by omega) (by omega)] at hc
      refine wp_gd (nI_in' (by omega) (by omega)) ?_
      rw [nI_cl (by omega), h1, (r2 i (by omega)).1]
      refine wp_ite (fun he => ?_) (fun he => ?_)
      · exact wp_some (Or.inl ⟨rfl, i, by omega, (sd' hx).mp he⟩)
      · refine wp_some ⟨by omega, nI_1 i, fun k h => ?_⟩
        by_cases e : k = i
        · rw [e]; exact fun z => he ((sd' hx).mpr z)
        · exact hk k (by omega)
  obtain ⟨y, ey, hy⟩ := first
  unfold f_X4_putIfLargest
  rw [ey, bnd]
  rcases hy with ⟨rfl, k0, hk0, hsub⟩ | ⟨rfl, hno⟩
  · exact ⟨σ, n, a, rfl, ux_refl _ _, by omega, ⟨r1, r2⟩, hac, fun k hk => Or.inr ⟨k, hk, rfl⟩, fun j hj => ⟨j, hj, sub_refl _⟩, k0, hk0, hsub⟩
  · have second : ∃ (st : Nat) (e : Nat → Nat) (τ : jS), lp (f_X4_putIfLargest_L34 nm N (nI x)) fu (0, 0, σ) = some (nI st, τ) ∧ ux (wRc c0 c1) σ τ ∧ g_i τ c0 1 = nI n ∧ st ≤ n ∧ (∀ i, i < st → e i < n ∧ g_i τ c1 i = nI (a (e i)) ∧ ¬ sub (a (e i)) x) ∧ (∀ i j, i < j → j < st → e i < e j) ∧ (∀ j, j < n → ¬ sub (a j) x → ∃ i, i < st ∧ e i = j) := by
      suffices wp (lp (f_X4_putIfLargest_L34 nm N (nI x)) fu (0, 0, σ)) (fun y => ∃ (st : Nat) (e : Nat → Nat), y.1 = nI st ∧ ux (wRc c0 c1) σ y.2 ∧ g_i y.2 c0 1 = nI n ∧ st ≤ n ∧ (∀ i, i < st → e i < n ∧ g_i y.2 c1 i = nI (a (e i)) ∧ ¬ sub (a (e i)) x) ∧ (∀ i j, i < j → j < st → e i < e j) ∧ (∀ j, j < n → ¬ sub (a j) x → ∃ i, i < st ∧ e i = j)) by
        obtain ⟨⟨v, τ⟩, ev, st, e, hv, h⟩ := this
        have hv : v = nI st := hv
        rw [hv] at ev
        exact ⟨st, e, τ, ev, h⟩
      refine wp_up n (fun k y => ∃ (st : Nat) (e : Nat → Nat), y.1 = nI st ∧ y.2.1 = nI k ∧ ux (wRc c0 c1) σ y.2.2 ∧ g_i y.2.2 c0 1 = nI n ∧ st ≤ k ∧ (∀ i, i < st → e i < k ∧ g_i y.2.2 c1 i = nI (a (e i)) ∧ ¬ sub (a (e i)) x) ∧ (∀ i j, i < j → j < st → e i < e j) ∧ (∀ j, j < k → ¬ sub (a j) x → ∃ i, i < st ∧ e i = j) ∧ (∀ i, k ≤ i → g_i y.2.2 c1 i = g_i σ c1 i)) (i := 0) (by omega) (by omega) ⟨0, fun i => i, rfl, rfl, ux_refl _ _, r1, by omega, fun i hi => absurd hi (Nat.not_lt_zero i), fun i j _ hj => absurd hj (Nat.not_lt_zero j), fun j hj => absurd hj (Nat.not_lt_zero j), fun _ _ => rfl⟩ ?_
      rintro k ⟨v2, v3, τ⟩ hk ⟨st, e, hv2, hv3, hu, hsz, hst, he1, he2, he3, hrest⟩
      have hv2 : v2 = nI st := hv2
      have hv3 : v3 = nI k := hv3
      have hu : ux (wRc c0 c1) σ τ := hu
      have hsz : g_i τ c0 1 = nI n := hsz
      have he1 : ∀ i, i < st → e i < k ∧ g_i τ c1 i = nI (a (e i)) ∧ ¬ sub (a (e i)) x := he1
      have hrest : ∀ i, k ≤ i → g_i τ c1 i = g_i σ c1 i := hrest
      subst hv2 hv3
      unfold f_X4_putIfLargest_L34
      show wp (if g_i τ (nm 0) 1 ≤ nI k then some (Sum.inr (nI st, τ)) else _) _
      rw [h0, hsz]
      refine wp_ite (fun hc => ?_) (fun hc => ?_)
      · rw [nI_le' (by omega) (by omega)] at hc
        have : k = n := by omega
        subst this
        exact wp_some ⟨st, e, rfl, hu, hsz, hst, he1, he2, he3⟩
      · rw [nI_le' (by omega) (by omega)] at hc
        refine wp_gd (nI_in' (by omega) (by omega)) ?_
        obtain ⟨q1, q2⟩ := r2 k (by omega)
        rw [nI_cl (by omega), h1, hrest k (Nat.le_refl _), q1]
        refine wp_ite (fun hs => ?_) (fun hs => ?_)
        · have hs := (sd' q2).mp hs
          refine wp_some ⟨by omega, st, e, rfl, nI_1 k, hu, hsz, by omega, fun i hi => ⟨by have := (he1 i hi).1; omega, (he1 i hi).2⟩, he2, fun j hj hjs => ?_, fun i hi => hrest i (by omega)⟩
          by_cases ej : j = k
          · rw [ej] at hjs; exact absurd hs hjs
          · exact he3 j (by omega) hjs
        · have hs : ¬ sub (a k) x := fun z => hs ((sd' q2).mpr z)
          refine wp_gd (nI_in' (by omega) (by omega)) (wp_gd (nI_in' (by omega) (by omega)) (wp_bd (fun s1 h1' => wp_some ⟨by omega, st + 1, fun i => if i = st then k else e i, nI_1 st, nI_1 k, ?_, ?_, by omega, fun i hi => ?_, fun i j hij hj => ?_, fun j hj hjs => ?_, fun i hi => ?_⟩)))
          · show ux _ σ s1
            rw [h1']; exact ux_s hu (decide_eq_true (Or.inr rfl))
          · show g_i s1 c0 1 = _
            rw [h1', s_i_a hne]; exact hsz
          · show (if i = st then k else e i) < k + 1 ∧ g_i s1 c1 i = nI (a (if i = st then k else e i)) ∧ ¬ sub (a (if i = st then k else e i)) x
            rw [h1', nI_cl (by omega)]
            by_cases ei : i = st
            · rw [if_pos ei, ei, s_i_eq]; exact ⟨by omega, rfl, hs⟩
            · rw [if_neg ei, s_i_k ei]
              obtain ⟨z1, z2⟩ := he1 i (by omega)
              exact ⟨by omega, z2⟩
          · show (if i = st then k else e i) < (if j = st then k else e j)
            rw [if_neg (by omega)]
            by_cases ej : j = st
            · rw [if_pos ej]; exact (he1 i (by omega)).1
            · rw [if_neg ej]; exact he2 i j hij (by omega)
          · by_cases ej : j = k
            · exact ⟨st, by omega, by show (if st = st then k else e st) = j; rw [if_pos rfl, ej]⟩
            · obtain ⟨i, hi, ei⟩ := he3 j (by omega) hjs
              exact ⟨i, by omega, by show (if i = st then k else e i) = j; rw [if_neg (by omega), ei]⟩
          · show g_i s1 c1 i = _
            rw [h1', nI_cl (by omega), s_i_k (by omega)]
            exact hrest i (by omega)
    obtain ⟨st, e, τ, e2, u2, hsz, hst, he1, he2, he3⟩ := second
    show ∃ τ' n' a', (lp (f_X4_putIfLargest_L34 nm N (nI x)) fu (0, 0, σ)).bind (fun x_1 => bd (s_i x_1.2 (nm 0) 1 x_1.1) (fun s4 => (f_X4_put nm N (nI x) s4).bind (fun s5 => some s5))) = some τ' ∧ _
    rw [e2, bnd, bdx]
    have inj : ∀ i j, i < st → j < st → i ≠ j → e i ≠ e j := fun i j hi hj hij => by
      rcases Nat.lt_or_gt_of_ne hij with h | h
      · have := he2 i j h hj; omega
      · have := he2 j i h hi; omega
    have hput := row_put (nm := nm) (σ := s_i τ (nm 0) 1 (nI st)) (n := st) (N := N) (v := nI x) (by rw [h0, h1]; exact hne) (s_i_eq _ _ _ _) (by omega) (by omega)
    show ∃ τ' n' a', (f_X4_put nm N (nI x) (s_i τ (nm 0) 1 (nI st))).bind (fun s5 => some s5) = some τ' ∧ _
    rw [hput, bnd, h0, h1]
    refine ⟨_, st + 1, fun i => if i < st then a (e i) else x, rfl, ?_, by omega, ⟨s_i_eq _ _ _ _, fun k hk => ?_⟩, fun i j hi hj hij => ?_, fun k hk => ?_, fun j hj => ?_, st, by omega, ?_⟩
    · exact ux_s (ux_s (ux_s u2 (decide_eq_true (Or.inl ⟨rfl, rfl⟩))) (decide_eq_true (Or.inr rfl))) (decide_eq_true (Or.inl ⟨rfl, rfl⟩))
    · rw [s_i_a (fun z => hne z.symm)]
      show g_i _ c1 k = nI (if k < st then a (e k) else x) ∧ (if k < st then a (e k) else x) < 1024
      by_cases hks : k < st
      · rw [if_pos hks, s_i_k (by omega), s_i_a (fun z => hne z.symm)]
        obtain ⟨z1, z2, -⟩ := he1 k hks
        exact ⟨z2, (r2 _ z1).2⟩
      · have : k = st := by omega
        rw [if_neg hks, this, s_i_eq]; exact ⟨rfl, hx⟩
    · show ¬ sub (if i < st then a (e i) else x) (if j < st then a (e j) else x)
      by_cases hi2 : i < st
      · rw [if_pos hi2]
        by_cases hj2 : j < st
        · rw [if_pos hj2]
          exact hac _ _ (he1 i hi2).1 (he1 j hj2).1 (inj i j hi2 hj2 hij)
        · rw [if_neg hj2]; exact (he1 i hi2).2.2
      · rw [if_neg hi2, if_pos (by omega)]
        exact hno _ (he1 j (by omega)).1
    · show (if k < st then a (e k) else x) = x ∨ _
      by_cases hks : k < st
      · exact Or.inr ⟨e k, (he1 k hks).1, by show (if k < st then a (e k) else x) = _; rw [if_pos hks]⟩
      · exact Or.inl (by rw [if_neg hks])
    · by_cases hs : sub (a j) x
      · exact ⟨st, by omega, by show sub (a j) (if st < st then a (e st) else x); rw [if_neg (by omega)]; exact hs⟩
      · obtain ⟨i, hi, ei⟩ := he3 j hj hs
        exact ⟨i, by omega, by show sub (a j) (if i < st then a (e i) else x); rw [if_pos hi, ei]; exact sub_refl _⟩
    · show sub x (if st < st then a (e st) else x)
      rw [if_neg (by omega)]; exact sub_refl _
