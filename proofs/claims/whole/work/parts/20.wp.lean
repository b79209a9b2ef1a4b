/-! pure functions: that they have an answer, and what it is -/
def wp {α : Type} (T : Option α) (Q : α → Prop) : Prop := ∃ a, T = some a ∧ Q a
theorem wp_some {α : Type} {a : α} {Q : α → Prop} (h : Q a) : wp (some a) Q := ⟨a, rfl, h⟩
theorem wp_gd {α : Type} {c : Prop} {A : Option α} {Q : α → Prop} (hc : c) (h : wp A Q) : wp (gd c A) Q := by rw [gd_t hc]; exact h
theorem wp_ite {α : Type} {c : Prop} [Decidable c] {A B : Option α} {Q : α → Prop} (h1 : c → wp A Q) (h2 : ¬ c → wp B Q) : wp (if c then A else B) Q := by
  by_cases h : c
  · rw [if_pos h]; exact h1 h
  · rw [if_neg h]; exact h2 h
theorem wp_bd {α β : Type} {e : β} {k : β → Option α} {Q : α → Prop} (h : ∀ v, v = e → wp (k v) Q) : wp (bd e k) Q := h e rfl
theorem wp_bind {α β : Type} {f : Option β} {k : β → Option α} {Q : α → Prop} (h : wp f (fun b => wp (k b) Q)) : wp (f.bind k) Q := by
  obtain ⟨b, hb, a, ha, hq⟩ := h
  exact ⟨a, by rw [hb]; exact ha, hq⟩
theorem wp_bindE {α β : Type} {f : Option β} {b : β} {k : β → Option α} {Q : α → Prop} (h : f = some b) (hk : wp (k b) Q) : wp (f.bind k) Q := by
  rw [h]; exact hk
theorem wp_mono {α : Type} {T : Option α} {P Q : α → Prop} (h : wp T P) (hk : ∀ a, P a → Q a) : wp T Q := by
  obtain ⟨a, ha, hp⟩ := h
  exact ⟨a, ha, hk a hp⟩
theorem wp_eq {α : Type} {T : Option α} {a : α} (h : wp T (fun x => x = a)) : T = some a := by
  obtain ⟨b, hb, rfl⟩ := h
  exact hb
theorem wp_of {α : Type} {T : Option α} {a : α} {Q : α → Prop} (h : T = some a) (hq : Q a) : wp T Q := ⟨a, h, hq⟩
/-- a loop: n falls -/
theorem wp_lpn {S E : Type} {f : S → Option (S ⊕ E)} {Q : E → Prop} (I : Nat → S → Prop) (step : ∀ n s, I n s → wp (f s) (fun x => match x with
    | .inl t => ∃ m, m < n ∧ I m t
    | .inr e => Q e)) : ∀ (N n : Nat) (s : S), n < N → I n s → wp (lp f N s) Q := by
  intro N
  induction N with
  | zero => intro n s h; omega
  | succ N ih =>
    intro n s hn hI
    obtain ⟨x, hx, hq⟩ := step n s hI
    unfold lp
    rw [hx]
    cases x with
    | inl t =>
      obtain ⟨m, hm, hI2⟩ := hq
      exact ih m t (by omega) hI2
    | inr e => exact ⟨e, rfl, hq⟩
theorem wp_lp {S E : Type} {f : S → Option (S ⊕ E)} {Q : E → Prop} (I : Nat → S → Prop) {n : Nat} {s : S} (hn : n < 1000000) (h0 : I n s) (step : ∀ n s, I n s → wp (f s) (fun x => match x with
    | .inl t => ∃ m, m < n ∧ I m t
    | .inr e => Q e)) : wp (lp f fu s) Q := wp_lpn I step fu n s (Nat.lt_of_lt_of_le hn fu_big) h0
/-- a loop that counts up from i to N -/
theorem wp_up {S E : Type} {f : S → Option (S ⊕ E)} {Q : E → Prop} (N : Nat) (I : Nat → S → Prop) {i : Nat} {s : S} (hN : N < 1000000) (hi : i ≤ N) (h0 : I i s) (step : ∀ i s, i ≤ N → I i s → wp (f s) (fun x => match x with
    | .inl t => i < N ∧ I (i + 1) t
    | .inr e => Q e)) : wp (lp f fu s) Q := by
  refine wp_lp (fun n s => n ≤ N ∧ I (N - n) s) (n := N - i) (by omega) ⟨by omega, by rw [show N - (N - i) = i by omega]; exact h0⟩ ?_
  rintro n s ⟨hn, hI⟩
  refine wp_mono (step (N - n) s (by omega) hI) ?_
  intro x hx
  cases x with
  | inl t => exact ⟨n - 1, by omega, by omega, by rw [show N - (n - 1) = N - n + 1 by omega]; exact hx.2⟩
  | inr e => exact hx
/-! stores -/
theorem s_i_eq (σ : jS) (a k : Nat) (v : Int32) : g_i (s_i σ a k v) a k = v := by rw [g_i_s, if_pos ⟨rfl, rfl⟩]
theorem s_i_ne {σ : jS} {a k b j : Nat} {v : Int32} (h : ¬ (b = a ∧ j = k)) : g_i (s_i σ a k v) b j = g_i σ b j := by rw [g_i_s, if_neg h]
theorem s_i_a {σ : jS} {a k b j : Nat} {v : Int32} (h : b ≠ a) : g_i (s_i σ a k v) b j = g_i σ b j := s_i_ne (fun z => h z.1)
theorem s_i_k {σ : jS} {a k b j : Nat} {v : Int32} (h : j ≠ k) : g_i (s_i σ a k v) b j = g_i σ b j := s_i_ne (fun z => h z.2)
/-- outside of the cells of W nothing is other -/
def un (W : List Nat) (σ τ : jS) : Prop := ∀ a, a ∉ W → ∀ k, g_i τ a k = g_i σ a k
theorem un_refl (W : List Nat) (σ : jS) : un W σ σ := fun _ _ _ => rfl
theorem un_trans {W : List Nat} {σ τ υ : jS} (h1 : un W σ τ) (h2 : un W τ υ) : un W σ υ := fun a ha k => (h2 a ha k).trans (h1 a ha k)
theorem un_s {W : List Nat} {σ τ : jS} (h : un W σ τ) {a k : Nat} {v : Int32} (ha : a ∈ W) : un W σ (s_i τ a k v) := fun b hb j => by
  rw [s_i_a (fun e => hb (by rw [e]; exact ha))]; exact h b hb j
theorem un_l {W : List Nat} {σ τ : jS} (h : un W σ τ) {a k : Nat} {v : Int64} : un W σ (s_l τ a k v) := fun b hb j => h b hb j
theorem un_sub {V W : List Nat} {σ τ : jS} (h : un V σ τ) (hs : ∀ a, a ∈ V → a ∈ W) : un W σ τ := fun a ha k => h a (fun z => ha (hs a z)) k
/-! numbers -/
theorem nlit (n : Nat) : (OfNat.ofNat n : Int32) = nI n := rfl
theorem ni0 : (0 : Int32) = nI 0 := rfl
theorem ni1 : (1 : Int32) = nI 1 := rfl
theorem nI_in' {n N : Nat} (h : n < N) (hN : N < 2147483648) : vp_in (nI n) N := vp_in_nI h hN
theorem nI_cl {n : Nat} (h : n < 2147483648) : (nI n).toNatClampNeg = n := nI_clamp h
theorem nI_lt' {a b : Nat} (ha : a < 2147483648) (hb : b < 2147483648) : nI a < nI b ↔ a < b := nI_ltI ha hb
theorem nI_le' {a b : Nat} (ha : a < 2147483648) (hb : b < 2147483648) : nI a ≤ nI b ↔ a ≤ b := nI_leI ha hb
theorem nI_inj {a b : Nat} (ha : a < 2147483648) (hb : b < 2147483648) : nI a = nI b ↔ a = b := nI_eq ha hb
theorem nI_neg0 {a : Nat} (ha : a < 2147483648) : ¬ nI a < 0 := nI_pos ha
theorem nI_mul (a b : Nat) : nI a * nI b = nI (a * b) := (Int32.ofNat_mul a b).symm
theorem nI_ti {a : Nat} (ha : a < 2147483648) : (nI a).toInt = (a : Int) := nI_toInt ha
/-- the numbers from 0 on -/
theorem nI_all {x : Int32} (h : ¬ x < 0) : ∃ j : Nat, j < 2147483648 ∧ x = nI j := nI_of h
