/-! round: the class counts all sets of a place -/
theorem tp_cg {W : Nat → Nat → Nat} {pl : Nat → Int} {lo : Int} {n q c : Nat} {V : Nat → Nat → Bool} {σ τ : jS} (u : ux V σ τ) (h1 : V 93 q = false) (h2 : ∀ S, S < 2 ^ n → V 92 (1024 * q + S) = false) (h : TP W pl lo n q c σ) : TP W pl lo n q c τ := by
  refine ⟨(u 93 q h1).trans h.1, fun S h3 h4 h5 h6 => ?_⟩
  obtain ⟨v, e, hl⟩ := h.2 S h3 h4 h5 h6
  exact ⟨v, (u 92 _ (h2 S h4)).trans e, hl⟩
theorem rowS_cg {b : Nat → Nat} {m : Nat} {V : Nat → Nat → Bool} {σ τ : jS} (u : ux V σ τ) (h1 : V 94 1 = false) (h2 : ∀ k, V 95 k = false) (h : RowS 94 95 b m σ) : RowS 94 95 b m τ :=
  ⟨(u 94 1 h1).trans h.1, fun k hk => by rw [u 95 k (h2 k)]; exact h.2 k hk⟩
theorem tp_put {W : Nat → Nat → Nat} {pl : Nat → Int} {lo : Int} {n p S d v : Nat} {τ : jS} (hT : TP W pl lo n p (S + 1) τ) (hl : LsT W n p S v) (h : ∀ S', d ≤ S' → S' < 2 ^ n → sub (bhS pl lo n p) S' → AF pl lo n p S' → S ≤ S') : TP W pl lo n p d (s_i τ 92 (1024 * p + S) (nI v)) := by
  refine ⟨(s_i_a (by decide)).trans hT.1, fun S' h1 h2 h3 h4 => ?_⟩
  have h5 := h S' h1 h2 h3 h4
  by_cases e : S' = S
  · rw [e]; exact ⟨v, s_i_eq _ _ _ _, hl⟩
  · obtain ⟨w, e1, e2⟩ := hT.2 S' (by omega) h2 h3 h4
    exact ⟨w, (s_i_k (by omega)).trans e1, e2⟩
def wPl (p a k : Nat) : Bool := decide (a = 92 ∧ 1024 * p ≤ k ∧ k < 1024 * p + 1024)
theorem sub_0 (x : Nat) : sub 0 x := sub_iff.mpr (fun i hi => by rw [Nat.zero_testBit] at hi; cases hi)
theorem count_c {nm : Nat → Nat} {W : Nat → Nat → Nat} {pl : Nat → Int} {lo : Int} {n L p m : Nat} {b : Nat → Nat} {σ : jS} (hn : n ≤ 10) (hlo : 1 ≤ lo) (hW : WOk W pl lo n) (hm : toNm nm) (h5 : g_i σ 91 5 = nI L) (hL : L < 50) (hLl : ∀ l, l < n → pl l - (L : Int) < lo) (hp : p ≤ L) (h93 : g_i σ 93 p = nI (bhS pl lo n p)) (hT1 : p < L → TP W pl lo n (p + 1) 0 σ) (hm64 : m ≤ 64) (hr : RowS 94 95 b m σ) (hb1 : ∀ k, k < m → ∃ t, t < 64 ∧ b k = W p t) (hb2 : ∀ t, t < 64 → W p t ≠ 0 → ∃ k, k < m ∧ sub (W p t) (b k)) : ∃ τ, f_X8_countMinutesAt nm (nI p) (nI (nrS pl lo n p)) (nI (2 ^ n - 1)) σ = some τ ∧ ux (wPl p) σ τ ∧ TP W pl lo n p 0 τ := by
  have hpw := pow10 hn
  have hnr := nr_lt pl lo n p
  have hbh := bh_lt pl lo n p
  have val : ∀ S, S < 2 ^ n → sub (bhS pl lo n p) S → AF pl lo n p S → sub (S &&& nrS pl lo n p) (nrS pl lo n p) ∧ S = bhS pl lo n p + (S &&& nrS pl lo n p) := fun S h1 h2 h3 => by
    have hs : sub (S &&& nrS pl lo n p) (nrS pl lo n p) := sub_iff.mpr (fun i hi => by rw [Nat.testBit_and] at hi; exact (Bool.and_eq_true_iff.mp hi).2)
    refine ⟨hs, ?_⟩
    have hv := val_ok (pl := pl) hlo hs
    have hle := sub_le hs
    have ho := or_add (a := bhS pl lo n p) (b := S &&& nrS pl lo n p) (by omega) (by omega) hv.2.2.2.1
    have he := val_eq h1 h2 h3
    omega
  have orc : ∀ c, sub c (nrS pl lo n p) → bhS pl lo n p ||| c = bhS pl lo n p + c := fun c hc => by
    have hle := sub_le hc
    exact or_add (by omega) (by omega) (val_ok (pl := pl) hlo hc).2.2.2.1
  suffices wp (f_X8_countMinutesAt nm (nI p) (nI (nrS pl lo n p)) (nI (2 ^ n - 1)) σ) (fun τ => ux (wPl p) σ τ ∧ TP W pl lo n p 0 τ) by
    obtain ⟨τ, e, h⟩ := this
    exact ⟨τ, e, h⟩
  unfold f_X8_countMinutesAt
  refine wp_bind ?_
  refine wp_lp (fun q s => ux (wPl p) σ s.2.2 ∧ ((q = 0 ∧ s.1 = -1 ∧ TP W pl lo n p 0 s.2.2) ∨ (∃ c k, q = c + 1 ∧ s.1 = nI c ∧ s.2.1 = nI k ∧ k + c + 1 ≤ 1024 ∧ sub c (nrS pl lo n p) ∧ TP W pl lo n p (bhS pl lo n p + c + 1) s.2.2))) (n := nrS pl lo n p + 1) (by omega) ⟨ux_refl _ _, Or.inr ⟨_, 0, rfl, rfl, rfl, by omega, sub_refl _, h93, fun S h1 h2 h3 h4 => ?_⟩⟩ ?_
  · obtain ⟨a1, a2⟩ := val S h2 h3 h4
    have := sub_le a1
    omega
  rintro q ⟨v4, v5, τ⟩ ⟨hu, hI⟩
  have hu : ux (wPl p) σ τ := hu
  unfold f_X8_countMinutesAt_L6
  rcases hI with ⟨rfl, hv4, hT⟩ | ⟨c, k, rfl, hv4, hv5, hk, hc, hT⟩
  · have hv4 : v4 = -1 := hv4
    have hT : TP W pl lo n p 0 τ := hT
    show wp (if 1024 ≤ v5 then some (Sum.inr τ) else if v4 < 0 then some (Sum.inr τ) else _) _
    refine wp_ite (fun _ => wp_some (wp_some ⟨hu, hT⟩)) (fun _ => ?_)
    rw [if_pos (by rw [hv4]; decide)]
    exact wp_some (wp_some ⟨hu, hT⟩)
  · have hv4 : v4 = nI c := hv4
    have hv5 : v5 = nI k := hv5
    have hT : TP W pl lo n p (bhS pl lo n p + c + 1) τ := hT
    subst hv4 hv5
    show wp (if nI 1024 ≤ nI k then some (Sum.inr τ) else if nI c < 0 then some (Sum.inr τ) else _) _
    rw [if_neg (nle_lit (by omega) (by omega)), if_neg (nI_neg0 (by omega))]
    refine wp_gd (nI_in' (by omega) (by omega)) (wp_bd (fun x1 hx1 => ?_))
    rw [nI_cl (by omega), hm.2.2.2.1, hT.1, nI_or, orc c hc] at hx1
    obtain ⟨vl1, vl2, vl3, vl4, vl5⟩ := val_ok (pl := pl) hlo hc
    rw [orc c hc] at vl1 vl2 vl3
    generalize hSd : bhS pl lo n p + c = S at *
    subst hx1
    rw [if_neg (show ¬ (1024 : Int32) ≤ nI S from nle_lit (a := 1024) (by omega) (by omega))]
    have hv : ∃ v, (if nI S = nI (2 ^ n - 1) then some (0 : Int32) else (f_X8_fewestFrom nm (nI p) (nI S) τ).bind (fun q2 => some q2)) = some (nI v) ∧ LsT W n p S v := by
      by_cases e : S = 2 ^ n - 1
      · rw [if_pos (by rw [e])]
        exact ⟨0, rfl, Or.inl ⟨Nat.zero_le _, ⟨e, Nat.zero_le _⟩, fun j hj => absurd hj (Nat.not_lt_zero j)⟩⟩
      · rw [if_neg (fun z => e ((nI_inj (by omega) (by omega)).mp z))]
        obtain ⟨v, ev, hl⟩ := ff_c (σ := τ) hn hW hm ((hu 91 5 rfl).trans h5) hL hLl hp vl1 e vl3 hT (fun h => tp_cg hu rfl (fun S' _ => decide_eq_false (by omega)) (hT1 h)) hm64 (rowS_cg hu rfl (fun _ => rfl) hr) hb1 hb2
        rw [ev, bnd]
        exact ⟨v, rfl, hl⟩
    obtain ⟨v, ev, hl⟩ := hv
    have hs5 : ((if nI S = nI (2 ^ n - 1) then some (0 : Int32) else (f_X8_fewestFrom nm (nI p) (nI S) τ).bind (fun q2 => some q2)).bind (fun y3 => f_X8_countMinutesAt_J67 nm (nI p) (nI (nrS pl lo n p)) (nI (2 ^ n - 1)) (nI c) (nI k) ((nI p * 1024) + nI S) y3 τ)) = some (s_i τ 92 (1024 * p + S) (nI v)) := by
      rw [ev, bnd]
      unfold f_X8_countMinutesAt_J67
      have ix : nI p * 1024 + nI S = nI (1024 * p + S) := by
        rw [show nI p * 1024 = nI (p * 1024) from nI_mul p 1024, nI_add, Nat.mul_comm]
      rw [ix, gd_t (nI_in' (by omega) (by omega)), nI_cl (by omega), hm.2.2.1]
      rfl
    refine wp_bindE hs5 ?_
    have hu2 : ux (wPl p) σ (s_i τ 92 (1024 * p + S) (nI v)) := ux_s hu (decide_eq_true ⟨rfl, by omega, by omega⟩)
    unfold f_X8_countMinutesAt_J68
    by_cases hc0 : c = 0
    · subst hc0
      rw [if_pos (show nI 0 = (0 : Int32) from rfl)]
      refine wp_some ⟨0, by omega, hu2, Or.inl ⟨rfl, rfl, tp_put hT hl (fun S' _ h2 h3 h4 => ?_)⟩⟩
      have := sub_le h3
      omega
    · rw [if_neg (show ¬ nI c = (0 : Int32) from fun z => hc0 ((nI_z (by omega)).mp z))]
      refine wp_bd (fun x6 hx6 => wp_some ?_)
      obtain ⟨-, pn2, pn3⟩ := part_next hc (sub_0 _) (show 0 < c by omega)
      have e1 : nI c - 1 = nI (c - 1) := (nI_sb (a := c) (b := 1) (by omega))
      rw [e1, nI_and] at hx6
      refine ⟨((c - 1) &&& nrS pl lo n p) + 1, by omega, hu2, Or.inr ⟨_, k + 1, rfl, hx6, nI_1 k, by omega, pn3, tp_put hT hl (fun S' h1 h2 h3 h4 => ?_)⟩⟩
      obtain ⟨a1, a2⟩ := val S' h2 h3 h4
      refine Nat.le_of_not_lt (fun hlt => ?_)
      have := (part_next hc a1 (by omega)).1
      omega
