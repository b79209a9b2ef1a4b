/-! round: the reference's table of minutes -/
theorem rk_up {W : Nat → Nat → Nat} {all : Nat} : ∀ k p S, Rk W all k p S → Rk W all (k + 1) p S
  | 0, _, _, h => Or.inl h
  | k + 1, p, S, h => by
    rcases h with h | ⟨nt, h1, h2⟩ | ⟨h1, h2⟩ | ⟨h1, h2⟩
    · exact Or.inl h
    · exact Or.inr (Or.inl ⟨nt, h1, rk_up k _ _ h2⟩)
    · exact Or.inr (Or.inr (Or.inl ⟨h1, rk_up k _ _ h2⟩))
    · exact Or.inr (Or.inr (Or.inr ⟨h1, rk_up k _ _ h2⟩))
theorem rk_le {W : Nat → Nat → Nat} {all k j p S : Nat} (hkj : k ≤ j) (h : Rk W all k p S) : Rk W all j p S := by
  obtain ⟨d, rfl⟩ : ∃ d, j = k + d := ⟨j - k, by omega⟩
  clear hkj
  induction d with
  | zero => exact h
  | succ d ih => exact rk_up _ _ _ ih
theorem rk_note {W : Nat → Nat → Nat} {all k p S nt : Nat} (hn : nt < 64) (h : Rk W all k p (S ||| W p nt)) : Rk W all (1 + k) p S := by
  rw [Nat.add_comm]; exact Or.inr (Or.inl ⟨nt, hn, h⟩)
theorem rk_on {W : Nat → Nat → Nat} {all k p S : Nat} (hp : p + 1 < 50) (h : Rk W all k (p + 1) S) : Rk W all (1 + k) p S := by
  rw [Nat.add_comm]; exact Or.inr (Or.inr (Or.inl ⟨hp, h⟩))
theorem rk_back {W : Nat → Nat → Nat} {all k p S : Nat} (h : Rk W all k p S) : Rk W all (1 + k) (p + 1) S := by
  rw [Nat.add_comm]; exact Or.inr (Or.inr (Or.inr ⟨by omega, by rw [show p + 1 - 1 = p by omega]; exact h⟩))
/-- d minutes at least from (p, S); 1000000: never; B bounds what is finite -/
def DS (W : Nat → Nat → Nat) (all B d p S : Nat) : Prop := (d ≤ B ∧ Rk W all d p S ∧ ∀ j, j < d → ¬ Rk W all j p S) ∨ (d = 1000000 ∧ ∀ j, ¬ Rk W all j p S)
theorem lesN {a b : Nat} (ha : a < 2000000) (hb : b < 2000000) : f_X11_lesser (nI a) (nI b) = some (nI (min a b)) := by
  unfold f_X11_lesser
  by_cases hle : b ≤ a
  · rw [if_pos (by rw [nI_le' (by omega) (by omega)]; exact hle), Nat.min_eq_right hle]
  · rw [if_neg (by rw [nI_le' (by omega) (by omega)]; exact hle), Nat.min_eq_left (by omega)]
theorem one_n (v : Nat) : (1 : Int32) + nI v = nI (1 + v) := by show nI 1 + nI v = _; rw [nI_add]
/-- what is right so far: each finite count is a way, and no more than B -/
def Snd (W : Nat → Nat → Nat) (all B S p v : Nat) : Prop := v ≤ 1000000 ∧ (v < 1000000 → v ≤ B ∧ Rk W all v p S)
theorem snd_min {W : Nat → Nat → Nat} {all B S p a b : Nat} (ha : Snd W all B S p a) (hb : b < 1000000 → b ≤ B ∧ Rk W all b p S) : Snd W all B S p (min a b) := by
  refine ⟨by have := ha.1; omega, fun h => ?_⟩
  by_cases hle : a ≤ b
  · rw [Nat.min_eq_left hle] at h ⊢; exact ha.2 h
  · rw [Nat.min_eq_right (by omega)] at h ⊢; exact hb h
/-- the counts of one set, from all that are larger: complete if they keep step by step, and hums -/
theorem ds_of {W : Nat → Nat → Nat} {all B S : Nat} {D : Nat → Nat} (hB : B + 1 < 1000000) (hs : ∀ p, p < 50 → Snd W all B S p (D p)) (h0 : S = all → ∀ p, p < 50 → D p = 0) (hn : ∀ p nt k, p < 50 → nt < 64 → S ≠ all → S ||| W p nt ≠ S → Rk W all k p (S ||| W p nt) → D p ≤ k + 1 ∧ D p < 1000000) (h1 : ∀ p, p + 1 < 50 → D p ≤ D (p + 1) + 1 ∧ D (p + 1) ≤ D p + 1) : ∀ p, p < 50 → DS W all B (D p) p S := by
  have cmp : ∀ k p, p < 50 → Rk W all k p S → D p ≤ k ∧ D p < 1000000 := fun k => by
    induction k with
    | zero => intro p hp h; have := h0 h p hp; omega
    | succ k ih =>
      intro p hp h
      rcases h with h | ⟨nt, hnt, h⟩ | ⟨hp1, h⟩ | ⟨hp1, h⟩
      · have := h0 h p hp; omega
      · by_cases e : S ||| W p nt = S
        · rw [e] at h; have := ih p hp h; omega
        · by_cases ea : S = all
          · have := h0 ea p hp; omega
          · exact hn p nt k hp hnt ea e h
      · have a1 := ih (p + 1) hp1 h
        have a2 := (h1 p hp1).1
        have a3 := (hs (p + 1) hp1).2 a1.2
        omega
      · have a1 := ih (p - 1) (by omega) h
        have a2 := (h1 (p - 1) (by omega)).2
        rw [show p - 1 + 1 = p by omega] at a2
        have a3 := (hs (p - 1) (by omega)).2 a1.2
        omega
  intro p hp
  obtain ⟨s1, s2⟩ := hs p hp
  by_cases hlt : D p < 1000000
  · obtain ⟨b1, b2⟩ := s2 hlt
    exact Or.inl ⟨b1, b2, fun j hj hc => by have := (cmp j p hp hc).1; omega⟩
  · exact Or.inr ⟨by omega, fun j hc => hlt (cmp j p hp hc).2⟩
theorem n50 (a b : Nat) : (50 : Int32) * nI a + nI b = nI (50 * a + b) := by
  rw [show (50 : Int32) * nI a = nI (50 * a) from nI_mul 50 a, nI_add]
theorem n64 (a b : Nat) : (64 : Int32) * nI a + nI b = nI (64 * a + b) := by
  rw [show (64 : Int32) * nI a = nI (64 * a) from nI_mul 64 a, nI_add]
/-- the table of all sets from S on -/
def TR (W : Nat → Nat → Nat) (n S : Nat) (σ : jS) : Prop := ∀ T, S ≤ T → T < 2 ^ n → ∀ p, p < 50 → ∃ d, d ≤ 1000000 ∧ g_i σ 114 (50 * T + p) = nI d ∧ DS W (2 ^ n - 1) (100 * (2 ^ n - 1 - T)) d p T
def w114 (a _k : Nat) : Bool := decide (a = 114)
/-- one set: the least by a hum, then on, then back -/
theorem rset_c {W : Nat → Nat → Nat} {n S : Nat} {σ : jS} (hn : n ≤ 10) (h0 : g_i σ 101 0 = nI n) (hW : ∀ p t, p < 50 → t < 64 → g_i σ 115 (64 * p + t) = nI (W p t) ∧ W p t < 2 ^ n) (hS : S < 2 ^ n) (hT : TR W n (S + 1) σ) : ∃ τ1 τ2 τ3, lp (f_X11_findRound_L52 nmM (nI S)) fu (0, σ) = some τ1 ∧ lp (f_X11_findRound_L163 nmM (nI S)) fu (1, τ1) = some τ2 ∧ lp (f_X11_findRound_L218 nmM (nI S)) fu (48, τ2) = some τ3 ∧ ux w114 σ τ3 ∧ TR W n S τ3 := by
  have hp := pow10 hn
  have hp1 := Nat.two_pow_pos n
  generalize hall : 2 ^ n - 1 = all
  have eall : ∀ τ : jS, g_i τ 101 0 = nI n → f_X11_all nmM τ = some (nI all) := fun τ h => by
    show some (((1 : Int32) <<< (g_i τ 101 0 &&& 31)) - 1) = _
    rw [h, all_eq n hn, hall]
  have hB0 : ∃ B0, B0 = if S = all then 0 else 1 + 100 * (all - S - 1) := ⟨_, rfl⟩
  obtain ⟨B0, hB0⟩ := hB0
  -- other sets stay
  have keep : ∀ {ρ : jS}, (∀ T p, T ≠ S → p < 50 → g_i ρ 114 (50 * T + p) = g_i σ 114 (50 * T + p)) → ∀ T, S + 1 ≤ T → T < 2 ^ n → ∀ p, p < 50 → ∃ d, d ≤ 1000000 ∧ g_i ρ 114 (50 * T + p) = nI d ∧ DS W all (100 * (all - T)) d p T := fun {ρ} ho T h1 h2 p h3 => by
    obtain ⟨d, z1, z2, z3⟩ := hT T h1 h2 p h3
    rw [hall] at z3
    exact ⟨d, z1, (ho T p (by omega) h3).trans z2, z3⟩
  have ixne : ∀ {T p q : Nat}, T ≠ S → p < 50 → q < 50 → 50 * T + p ≠ 50 * S + q := fun {T p q} h1 h2 h3 => by omega
  -- first
  have l1 : ∃ τ1, lp (f_X11_findRound_L52 nmM (nI S)) fu (0, σ) = some τ1 ∧ ux w114 σ τ1 ∧ (∀ T p, T ≠ S → p < 50 → g_i τ1 114 (50 * T + p) = g_i σ 114 (50 * T + p)) ∧ ∃ b : Nat → Nat, (∀ p, p < 50 → g_i τ1 114 (50 * S + p) = nI (b p) ∧ Snd W all B0 S p (b p)) ∧ (S = all → ∀ p, p < 50 → b p = 0) ∧ (∀ p nt k, p < 50 → nt < 64 → S ≠ all → S ||| W p nt ≠ S → Rk W all k p (S ||| W p nt) → b p ≤ k + 1 ∧ b p < 1000000) := by
    suffices wp (lp (f_X11_findRound_L52 nmM (nI S)) fu (0, σ)) (fun τ1 => ux w114 σ τ1 ∧ (∀ T p, T ≠ S → p < 50 → g_i τ1 114 (50 * T + p) = g_i σ 114 (50 * T + p)) ∧ ∃ b : Nat → Nat, (∀ p, p < 50 → g_i τ1 114 (50 * S + p) = nI (b p) ∧ Snd W all B0 S p (b p)) ∧ (S = all → ∀ p, p < 50 → b p = 0) ∧ (∀ p nt k, p < 50 → nt < 64 → S ≠ all → S ||| W p nt ≠ S → Rk W all k p (S ||| W p nt) → b p ≤ k + 1 ∧ b p < 1000000)) by
      obtain ⟨τ, e, h⟩ := this
      exact ⟨τ, e, h⟩
    refine wp_up 50 (fun i s => s.1 = nI i ∧ ux w114 σ s.2 ∧ (∀ T p, T ≠ S → p < 50 → g_i s.2 114 (50 * T + p) = g_i σ 114 (50 * T + p)) ∧ ∃ b : Nat → Nat, (∀ p, p < i → g_i s.2 114 (50 * S + p) = nI (b p) ∧ Snd W all B0 S p (b p)) ∧ (S = all → ∀ p, p < i → b p = 0) ∧ (∀ p nt k, p < i → nt < 64 → S ≠ all → S ||| W p nt ≠ S → Rk W all k p (S ||| W p nt) → b p ≤ k + 1 ∧ b p < 1000000)) (i := 0) (by omega) (by omega) ⟨rfl, ux_refl _ _, fun _ _ _ _ => rfl, fun _ => 0, fun p hp => absurd hp (Nat.not_lt_zero p), fun _ p hp => absurd hp (Nat.not_lt_zero p), fun p nt k hp => absurd hp (Nat.not_lt_zero p)⟩ ?_
    rintro i ⟨v, τ⟩ hi ⟨hv, hu, ho, b, hb1, hb2, hb3⟩
    have hv : v = nI i := hv
    have hu : ux w114 σ τ := hu
    have ho : ∀ T p, T ≠ S → p < 50 → g_i τ 114 (50 * T + p) = g_i σ 114 (50 * T + p) := ho
    have hb1 : ∀ p, p < i → g_i τ 114 (50 * S + p) = nI (b p) ∧ Snd W all B0 S p (b p) := hb1
    subst hv
    unfold f_X11_findRound_L52
    show wp (if nI 50 ≤ nI i then some (Sum.inr τ) else _) _
    refine wp_ite (fun hc => ?_) (fun hc => ?_)
    · rw [nI_le' (by omega) (by omega)] at hc
      have : i = 50 := by omega
      subst this
      exact wp_some ⟨hu, ho, b, hb1, hb2, hb3⟩
    · rw [nI_le' (by omega) (by omega)] at hc
      have hi50 : i < 50 := by omega
      refine wp_bindE (eall τ ((hu 101 0 rfl).trans h0)) ?_
      have ev : (if nI S = nI all then some (0 : Int32) else some 1000000) = some (nI (if S = all then 0 else 1000000)) := by
        by_cases e : S = all
        · rw [if_pos (by rw [e]), if_pos e]; rfl
        · rw [if_neg (fun z => e ((nI_inj (by omega) (by omega)).mp z)), if_neg e]; rfl
      refine wp_bindE ev ?_
      unfold f_X11_findRound_J73
      have inner : ∃ w, lp (f_X11_findRound_L77 nmM (nI S) (nI i) τ) fu (nI (if S = all then 0 else 1000000), 0) = some (nI w) ∧ Snd W all B0 S i w ∧ (S = all → w = 0) ∧ (∀ nt k, nt < 64 → S ≠ all → S ||| W i nt ≠ S → Rk W all k i (S ||| W i nt) → w ≤ k + 1 ∧ w < 1000000) := by
        suffices wp (lp (f_X11_findRound_L77 nmM (nI S) (nI i) τ) fu (nI (if S = all then 0 else 1000000), 0)) (fun y => ∃ w, y = nI w ∧ Snd W all B0 S i w ∧ (S = all → w = 0) ∧ (∀ nt k, nt < 64 → S ≠ all → S ||| W i nt ≠ S → Rk W all k i (S ||| W i nt) → w ≤ k + 1 ∧ w < 1000000)) by
          obtain ⟨y, e, w, rfl, h⟩ := this
          exact ⟨w, e, h⟩
        refine wp_up 64 (fun t s => s.2 = nI t ∧ ∃ w, s.1 = nI w ∧ Snd W all B0 S i w ∧ (S = all → w = 0) ∧ (∀ nt k, nt < t → S ≠ all → S ||| W i nt ≠ S → Rk W all k i (S ||| W i nt) → w ≤ k + 1 ∧ w < 1000000)) (i := 0) (by omega) (by omega) ⟨rfl, _, rfl, ?_, fun e => if_pos e, fun nt k h => absurd h (Nat.not_lt_zero nt)⟩ ?_
        · by_cases e : S = all
          · rw [if_pos e]; exact ⟨by omega, fun _ => ⟨by omega, e⟩⟩
          · rw [if_neg e]; exact ⟨by omega, fun h => by omega⟩
        rintro t ⟨v3, v4⟩ ht ⟨hv4, w, hw, w1, w2, w3⟩
        have hv4 : v4 = nI t := hv4
        have hw : v3 = nI w := hw
        subst hv4 hw
        unfold f_X11_findRound_L77
        show wp (if nI 64 ≤ nI t then some (Sum.inr (nI w)) else _) _
        refine wp_ite (fun hc2 => ?_) (fun hc2 => ?_)
        · rw [nI_le' (by omega) (by omega)] at hc2
          exact wp_some ⟨w, rfl, w1, w2, fun nt k h => w3 nt k (by omega)⟩
        · rw [nI_le' (by omega) (by omega)] at hc2
          refine wp_bindE (eall τ ((hu 101 0 rfl).trans h0)) ?_
          refine wp_ite (fun he => ?_) (fun he => ?_)
          · rw [nI_inj (by omega) (by omega)] at he
            exact wp_some ⟨w, rfl, w1, w2, fun nt k _ hne => absurd he hne⟩
          · have hne : S ≠ all := fun z => he (by rw [z])
            obtain ⟨q1, q2⟩ := hW i t hi50 (by omega)
            rw [n64, nI_cl (show 64 * i + t < 2147483648 by omega), show g_i τ (nmM 14) (64 * i + t) = nI (W i t) from (hu 115 _ rfl).trans q1]
            refine wp_gd (nI_in' (by omega) (by omega)) (wp_bd (fun x8 h8 => ?_))
            rw [nI_or] at h8
            subst h8
            have hor : S ||| W i t < 2 ^ n := Nat.or_lt_two_pow hS q2
            refine wp_ite (fun hx => ?_) (fun hx => ?_)
            · rw [nI_inj (by omega) (by omega)] at hx
              refine wp_some ⟨by omega, nI_1 t, w, rfl, w1, w2, fun nt k hnt hne hne2 hk => ?_⟩
              by_cases e : nt = t
              · rw [e] at hne2; exact absurd hx hne2
              · exact w3 nt k (by omega) hne hne2 hk
            · have hx : S ||| W i t ≠ S := fun z => hx (by rw [z])
              have hgt : S < S ||| W i t := by
                have := Nat.left_le_or (n := S) (m := W i t)
                omega
              obtain ⟨d, z1, z2, z3⟩ := keep ho (S ||| W i t) (by omega) hor i hi50
              rw [n50, nI_cl (show 50 * (S ||| W i t) + i < 2147483648 by omega), show g_i τ (nmM 13) (50 * (S ||| W i t) + i) = nI d from z2, one_n]
              refine wp_gd (nI_in' (by omega) (by omega)) ?_
              have w1b := w1.1
              refine wp_bindE (lesN (by omega) (by omega)) (wp_some ⟨by omega, nI_1 t, min w (1 + d), rfl, ?_, fun e => absurd e hne, fun nt k hnt hne2 hne3 hk => ?_⟩)
              · refine snd_min w1 (fun hd => ?_)
                rcases z3 with ⟨y1, y2, y3⟩ | ⟨y1, y2⟩
                · refine ⟨?_, rk_note (by omega) y2⟩
                  rw [hB0, if_neg hne]
                  omega
                · omega
              · by_cases e : nt = t
                · subst e
                  rcases z3 with ⟨y1, y2, y3⟩ | ⟨y1, y2⟩
                  · have : ¬ k < d := fun z => y3 k z hk
                    omega
                  · exact absurd hk (y2 k)
                · have := w3 nt k (by omega) hne2 hne3 hk
                  omega
      obtain ⟨w, ew, w1, w2, w3⟩ := inner
      refine wp_bindE ew ?_
      unfold f_X11_findRound_J143
      rw [n50]
      refine wp_gd (nI_in' (by omega) (by omega)) (wp_bd (fun s11 h11 => wp_some ⟨by omega, nI_1 i, ?_, fun T p hT hp => ?_, fun p => if p = i then w else b p, fun p hp => ?_, fun e p hp => ?_, fun p nt k hp => ?_⟩))
      · rw [h11]; exact ux_s hu rfl
      · show g_i s11 114 _ = _
        rw [h11, nI_cl (by omega)]
        exact (s_i_k (ixne hT hp hi50)).trans (ho T p hT hp)
      · show g_i s11 114 (50 * S + p) = nI (if p = i then w else b p) ∧ Snd W all B0 S p (if p = i then w else b p)
        rw [h11, nI_cl (by omega)]
        by_cases e : p = i
        · rw [if_pos e, e]; exact ⟨s_i_eq τ 114 (50 * S + i) _, w1⟩
        · rw [if_neg e]
          obtain ⟨y1, y2⟩ := hb1 p (by omega)
          exact ⟨(s_i_k (by omega)).trans y1, y2⟩
      · show (if p = i then w else b p) = 0
        by_cases e2 : p = i
        · rw [if_pos e2]; exact w2 e
        · rw [if_neg e2]; exact hb2 e p (by omega)
      · show nt < 64 → S ≠ all → S ||| W p nt ≠ S → Rk W all k p (S ||| W p nt) → (if p = i then w else b p) ≤ k + 1 ∧ (if p = i then w else b p) < 1000000
        by_cases e : p = i
        · rw [if_pos e, e]; exact fun h1 h2 h3 h4 => w3 nt k h1 h2 h3 h4
        · rw [if_neg e]; exact fun h1 h2 h3 h4 => hb3 p nt k (by omega) h1 h2 h3 h4
  obtain ⟨τ1, e1, u1, o1, b, hb1, hb2, hb3⟩ := l1
  have hB0b : B0 ≤ 1 + 100 * (all - S - 1) := by rw [hB0]; split <;> omega
  have hSle : S ≤ all := by omega
  -- second: on
  have l2 : ∃ τ2, lp (f_X11_findRound_L163 nmM (nI S)) fu (1, τ1) = some τ2 ∧ ux w114 τ1 τ2 ∧ (∀ T p, T ≠ S → p < 50 → g_i τ2 114 (50 * T + p) = g_i τ1 114 (50 * T + p)) ∧ ∃ f : Nat → Nat, (∀ p, p < 50 → g_i τ2 114 (50 * S + p) = nI (f p) ∧ Snd W all (B0 + p) S p (f p)) ∧ (∀ p, p < 50 → f p ≤ b p) ∧ (∀ p, p + 1 < 50 → f (p + 1) ≤ 1 + f p) := by
    suffices wp (lp (f_X11_findRound_L163 nmM (nI S)) fu (1, τ1)) (fun τ2 => ux w114 τ1 τ2 ∧ (∀ T p, T ≠ S → p < 50 → g_i τ2 114 (50 * T + p) = g_i τ1 114 (50 * T + p)) ∧ ∃ f : Nat → Nat, (∀ p, p < 50 → g_i τ2 114 (50 * S + p) = nI (f p) ∧ Snd W all (B0 + p) S p (f p)) ∧ (∀ p, p < 50 → f p ≤ b p) ∧ (∀ p, p + 1 < 50 → f (p + 1) ≤ 1 + f p)) by
      obtain ⟨τ, e, h⟩ := this
      exact ⟨τ, e, h⟩
    refine wp_up 50 (fun i s => 1 ≤ i ∧ s.1 = nI i ∧ ux w114 τ1 s.2 ∧ (∀ T p, T ≠ S → p < 50 → g_i s.2 114 (50 * T + p) = g_i τ1 114 (50 * T + p)) ∧ ∃ f : Nat → Nat, (∀ p, p < 50 → g_i s.2 114 (50 * S + p) = nI (f p) ∧ Snd W all (B0 + p) S p (f p)) ∧ (∀ p, p < 50 → f p ≤ b p) ∧ (∀ p, p + 1 < i → f (p + 1) ≤ 1 + f p)) (i := 1) (by omega) (by omega) ⟨by omega, rfl, ux_refl _ _, fun _ _ _ _ => rfl, b, fun p hp => ⟨(hb1 p hp).1, (hb1 p hp).2.1, fun h => by
      obtain ⟨y1, y2⟩ := (hb1 p hp).2.2 h
      exact ⟨by omega, y2⟩⟩, fun _ _ => Nat.le_refl _, fun p hp => by omega⟩ ?_
    rintro i ⟨v, τ⟩ hi ⟨hi1, hv, hu, ho, f, hf1, hf2, hf3⟩
    have hv : v = nI i := hv
    have hu : ux w114 τ1 τ := hu
    have ho : ∀ T p, T ≠ S → p < 50 → g_i τ 114 (50 * T + p) = g_i τ1 114 (50 * T + p) := ho
    have hf1 : ∀ p, p < 50 → g_i τ 114 (50 * S + p) = nI (f p) ∧ Snd W all (B0 + p) S p (f p) := hf1
    subst hv
    unfold f_X11_findRound_L163
    show wp (if nI 50 ≤ nI i then some (Sum.inr τ) else _) _
    refine wp_ite (fun hc => ?_) (fun hc => ?_)
    · rw [nI_le' (by omega) (by omega)] at hc
      exact wp_some ⟨hu, ho, f, hf1, hf2, fun p hp => hf3 p (by omega)⟩
    · rw [nI_le' (by omega) (by omega)] at hc
      have hi50 : i < 50 := by omega
      have em : nI (50 * S + i) - 1 = nI (50 * S + (i - 1)) := (nI_sb (a := 50 * S + i) (b := 1) (by omega)).trans (congrArg nI (by omega))
      rw [n50, em, nI_cl (show 50 * S + i < 2147483648 by omega), nI_cl (show 50 * S + (i - 1) < 2147483648 by omega), show g_i τ (nmM 13) (50 * S + i) = nI (f i) from (hf1 i hi50).1, show g_i τ (nmM 13) (50 * S + (i - 1)) = nI (f (i - 1)) from (hf1 (i - 1) (by omega)).1, one_n]
      have s1 := (hf1 i hi50).2
      have s2 := (hf1 (i - 1) (by omega)).2
      have s1b := s1.1
      have s2b := s2.1
      refine wp_gd (nI_in' (by omega) (by omega)) (wp_gd (nI_in' (by omega) (by omega)) (wp_bindE (lesN (by omega) (by omega)) (wp_gd (nI_in' (by omega) (by omega)) (wp_bd (fun s14 h14 => wp_some ⟨by omega, by omega, nI_1 i, ?_, fun T p hT hp => ?_, fun p => if p = i then min (f i) (1 + f (i - 1)) else f p, fun p hp => ?_, fun p hp => ?_, fun p hp => ?_⟩)))))
      · rw [h14]; exact ux_s hu rfl
      · show g_i s14 114 _ = _
        rw [h14]
        exact (s_i_k (ixne hT hp hi50)).trans (ho T p hT hp)
      · show g_i s14 114 (50 * S + p) = nI (if p = i then min (f i) (1 + f (i - 1)) else f p) ∧ Snd W all (B0 + p) S p (if p = i then min (f i) (1 + f (i - 1)) else f p)
        rw [h14]
        by_cases e : p = i
        · rw [if_pos e, e]
          refine ⟨s_i_eq τ 114 (50 * S + i) _, snd_min s1 (fun h => ?_)⟩
          obtain ⟨y1, y2⟩ := s2.2 (by omega)
          have := rk_back y2
          rw [show i - 1 + 1 = i by omega] at this
          exact ⟨by omega, this⟩
        · rw [if_neg e]
          exact ⟨(s_i_k (by omega)).trans (hf1 p hp).1, (hf1 p hp).2⟩
      · show (if p = i then min (f i) (1 + f (i - 1)) else f p) ≤ b p
        by_cases e : p = i
        · rw [if_pos e, e]; have := hf2 i hi50; omega
        · rw [if_neg e]; exact hf2 p hp
      · show (if p + 1 = i then min (f i) (1 + f (i - 1)) else f (p + 1)) ≤ 1 + (if p = i then min (f i) (1 + f (i - 1)) else f p)
        rw [if_neg (show ¬ p = i by omega)]
        by_cases e : p + 1 = i
        · rw [if_pos e, show i - 1 = p by omega]; omega
        · rw [if_neg e]; exact hf3 p (by omega)
  obtain ⟨τ2, e2, u2, o2, f, hf1, hf2, hf3⟩ := l2
  -- third: back
  have l3 : ∃ τ3, lp (f_X11_findRound_L218 nmM (nI S)) fu (48, τ2) = some τ3 ∧ ux w114 τ2 τ3 ∧ (∀ T p, T ≠ S → p < 50 → g_i τ3 114 (50 * T + p) = g_i τ2 114 (50 * T + p)) ∧ ∃ D : Nat → Nat, (∀ p, p < 50 → g_i τ3 114 (50 * S + p) = nI (D p) ∧ Snd W all (B0 + 98) S p (D p)) ∧ (∀ p, p < 50 → D p ≤ f p) ∧ (∀ p, p + 1 < 50 → D p ≤ 1 + D (p + 1) ∧ (D p = f p ∨ D p = 1 + D (p + 1))) := by
    suffices wp (lp (f_X11_findRound_L218 nmM (nI S)) fu (48, τ2)) (fun τ3 => ux w114 τ2 τ3 ∧ (∀ T p, T ≠ S → p < 50 → g_i τ3 114 (50 * T + p) = g_i τ2 114 (50 * T + p)) ∧ ∃ D : Nat → Nat, (∀ p, p < 50 → g_i τ3 114 (50 * S + p) = nI (D p) ∧ Snd W all (B0 + 49 + (49 - p)) S p (D p)) ∧ (∀ p, p < 50 → D p ≤ f p) ∧ (∀ p, p + 1 < 50 → D p ≤ 1 + D (p + 1) ∧ (D p = f p ∨ D p = 1 + D (p + 1)))) by
      obtain ⟨τ, e, h1, h2, D, h3, h4⟩ := this
      exact ⟨τ, e, h1, h2, D, fun p hp => ⟨(h3 p hp).1, (h3 p hp).2.1, fun h => ⟨by have := ((h3 p hp).2.2 h).1; omega, ((h3 p hp).2.2 h).2⟩⟩, h4⟩
    refine wp_lp (fun q s => q ≤ 49 ∧ s.1 = nI q - 1 ∧ ux w114 τ2 s.2 ∧ (∀ T p, T ≠ S → p < 50 → g_i s.2 114 (50 * T + p) = g_i τ2 114 (50 * T + p)) ∧ ∃ D : Nat → Nat, (∀ p, p < 50 → g_i s.2 114 (50 * S + p) = nI (D p) ∧ Snd W all (B0 + 49 + (49 - p)) S p (D p)) ∧ (∀ p, p < 50 → D p ≤ f p) ∧ (∀ p, p < q → D p = f p) ∧ (∀ p, q ≤ p → p + 1 < 50 → D p ≤ 1 + D (p + 1) ∧ (D p = f p ∨ D p = 1 + D (p + 1)))) (n := 49) (by omega) ⟨by omega, (by decide : (48 : Int32) = nI 49 - 1), ux_refl _ _, fun _ _ _ _ => rfl, f, fun p hp => ⟨(hf1 p hp).1, (hf1 p hp).2.1, fun h => ⟨by have := ((hf1 p hp).2.2 h).1; omega, ((hf1 p hp).2.2 h).2⟩⟩, fun _ _ => Nat.le_refl _, fun _ _ => rfl, fun p h1 h2 => by omega⟩ ?_
    rintro q ⟨v, τ⟩ ⟨hq, hv, hu, ho, D, hD1, hD2, hD3, hD4⟩
    have hv : v = nI q - 1 := hv
    have hu : ux w114 τ2 τ := hu
    have ho : ∀ T p, T ≠ S → p < 50 → g_i τ 114 (50 * T + p) = g_i τ2 114 (50 * T + p) := ho
    have hD1 : ∀ p, p < 50 → g_i τ 114 (50 * S + p) = nI (D p) ∧ Snd W all (B0 + 49 + (49 - p)) S p (D p) := hD1
    subst hv
    unfold f_X11_findRound_L218
    show wp (if nI q - 1 < 0 then some (Sum.inr τ) else _) _
    cases q with
    | zero =>
      rw [if_pos neg1_lt]
      exact wp_some ⟨hu, ho, D, hD1, hD2, fun p hp => hD4 p (by omega) hp⟩
    | succ i =>
      rw [nI_p1m, if_neg (nI_neg0 (by omega))]
      have hi50 : i < 50 := by omega
      rw [n50, nI_1, nI_cl (show 50 * S + i < 2147483648 by omega), nI_cl (show 50 * S + i + 1 < 2147483648 by omega), show g_i τ (nmM 13) (50 * S + i) = nI (D i) from (hD1 i hi50).1, show g_i τ (nmM 13) (50 * S + i + 1) = nI (D (i + 1)) from (hD1 (i + 1) (by omega)).1, one_n]
      have s1 := (hD1 i hi50).2
      have s2 := (hD1 (i + 1) (by omega)).2
      have s1b := s1.1
      have s2b := s2.1
      refine wp_gd (nI_in' (by omega) (by omega)) (wp_gd (nI_in' (by omega) (by omega)) (wp_bindE (lesN (by omega) (by omega)) (wp_gd (nI_in' (by omega) (by omega)) (wp_bd (fun s17 h17 => wp_some ⟨i, by omega, by omega, nI_a1 _, ?_, fun T p hT hp => ?_, fun p => if p = i then min (D i) (1 + D (i + 1)) else D p, fun p hp => ?_, fun p hp => ?_, fun p hp => ?_, fun p hp1 hp2 => ?_⟩)))))
      · rw [h17]; exact ux_s hu rfl
      · show g_i s17 114 _ = _
        rw [h17]
        exact (s_i_k (ixne hT hp hi50)).trans (ho T p hT hp)
      · show g_i s17 114 (50 * S + p) = nI (if p = i then min (D i) (1 + D (i + 1)) else D p) ∧ Snd W all (B0 + 49 + (49 - p)) S p (if p = i then min (D i) (1 + D (i + 1)) else D p)
        rw [h17]
        by_cases e : p = i
        · rw [if_pos e, e]
          refine ⟨s_i_eq τ 114 (50 * S + i) _, snd_min s1 (fun h => ?_)⟩
          obtain ⟨y1, y2⟩ := s2.2 (by omega)
          exact ⟨by omega, rk_on (by omega) y2⟩
        · rw [if_neg e]
          exact ⟨(s_i_k (by omega)).trans (hD1 p hp).1, (hD1 p hp).2⟩
      · show (if p = i then min (D i) (1 + D (i + 1)) else D p) ≤ f p
        by_cases e : p = i
        · rw [if_pos e, e]; have := hD2 i hi50; omega
        · rw [if_neg e]; exact hD2 p hp
      · show (if p = i then min (D i) (1 + D (i + 1)) else D p) = f p
        rw [if_neg (by omega)]; exact hD3 p (by omega)
      · show (if p = i then min (D i) (1 + D (i + 1)) else D p) ≤ 1 + (if p + 1 = i then min (D i) (1 + D (i + 1)) else D (p + 1)) ∧ ((if p = i then min (D i) (1 + D (i + 1)) else D p) = f p ∨ (if p = i then min (D i) (1 + D (i + 1)) else D p) = 1 + (if p + 1 = i then min (D i) (1 + D (i + 1)) else D (p + 1)))
        rw [if_neg (show ¬ p + 1 = i by omega)]
        by_cases e : p = i
        · rw [if_pos e, e]
          have := hD3 i (by omega)
          omega
        · rw [if_neg e]; exact hD4 p (by omega) hp2
  obtain ⟨τ3, e3, u3, o3, D, hD1, hD2, hD3⟩ := l3
  refine ⟨τ1, τ2, τ3, e1, e2, e3, ux_tr u1 (ux_tr u2 u3), fun T hT1 hT2 p hp => ?_⟩
  rw [hall]
  by_cases e : T = S
  · subst e
    obtain ⟨y1, y2⟩ := hD1 p hp
    refine ⟨D p, y2.1, y1, ?_⟩
    by_cases ea : T = all
    · have hz : ∀ p, p < 50 → D p = 0 := fun p hp => by
        have a1 := hb2 ea p hp
        have a2 := hf2 p hp
        have a3 := hD2 p hp
        omega
      rw [hz p hp]
      exact Or.inl ⟨by omega, ea, fun j hj => absurd hj (Nat.not_lt_zero j)⟩
    · have hBB : B0 + 98 ≤ 100 * (all - T) := by omega
      have := ds_of (W := W) (all := all) (B := B0 + 98) (S := T) (D := D) (by omega) (fun p hp => (hD1 p hp).2) (fun z => absurd z ea) (fun p nt k hp hnt hne hne2 hk => by
        have a1 := hb3 p nt k hp hnt hne hne2 hk
        have a2 := hf2 p hp
        have a3 := hD2 p hp
        omega) (fun p hp => by
        obtain ⟨z1, z2⟩ := hD3 p hp
        have z3 := hf3 p hp
        have z4 := hD2 (p + 1) (by omega)
        omega) p hp
      rcases this with ⟨z1, z2⟩ | z
      · exact Or.inl ⟨by omega, z2⟩
      · exact Or.inr z
  · exact keep (fun T p h1 h2 => (o3 T p h1 h2).trans ((o2 T p h1 h2).trans (o1 T p h1 h2))) T (by omega) hT2 p hp
