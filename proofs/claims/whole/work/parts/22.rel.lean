/-! what ties class and reference together -/
def rg (x : Int32) (lo hi : Int) : Prop := lo ≤ x.toInt ∧ x.toInt ≤ hi
theorem rg_nI {x : Int32} {hi : Nat} (h : rg x 0 (hi : Int)) : ∃ j, j ≤ hi ∧ x = nI j := by
  obtain ⟨h1, h2⟩ := h
  have hx : ¬ x < 0 := by
    rw [Int32.lt_iff_toInt_lt]
    show ¬ x.toInt < 0
    omega
  obtain ⟨j, hj, rfl⟩ := nI_all hx
  rw [nI_ti hj] at h2
  exact ⟨j, by omega, rfl⟩
theorem nI_rg {j : Nat} {lo hi : Int} (hj : j < 2147483648) (h1 : lo ≤ (j : Int)) (h2 : (j : Int) ≤ hi) : rg (nI j) lo hi := by
  unfold rg; rw [nI_ti hj]; exact ⟨h1, h2⟩
/-- a set out of a test -/
def bs (f : Nat → Bool) : Nat → Nat
  | 0 => 0
  | n + 1 => bs f n + (if f n then 2 ^ n else 0)
theorem bs_lt (f : Nat → Bool) : ∀ n, bs f n < 2 ^ n
  | 0 => Nat.one_pos
  | n + 1 => by
    have h := bs_lt f n
    unfold bs
    rw [Nat.pow_succ]
    split <;> omega
theorem bs_cong {f g : Nat → Bool} : ∀ {n : Nat}, (∀ k, k < n → f k = g k) → bs f n = bs g n
  | 0, _ => rfl
  | n + 1, h => by
    unfold bs
    rw [bs_cong (fun k hk => h k (by omega)), h n (by omega)]
/-- lamp l hears a sound at p of note nt, so loud (the moment's cell b) -/
def hd (σ : jS) (b : Nat) (p nt lo : Int) (l : Nat) : Bool := decide (((g_i σ (b + 1) l).toInt - (g_i σ 39 l).toInt * (g_i σ b 6).toInt - nt).natAbs ≤ (g_i σ 37 l).toInt.toNat) && decide ((((g_i σ 33 l).toInt - p).natAbs : Int) < lo)
/-- the round: within k minutes all are woken from place p, where S are woken -/
def Rk (Wf : Nat → Nat → Nat) (all : Nat) : Nat → Nat → Nat → Prop
  | 0, _, S => S = all
  | k + 1, p, S => S = all ∨ (∃ nt, nt < 64 ∧ Rk Wf all k p (S ||| Wf p nt)) ∨ (p + 1 < 50 ∧ Rk Wf all k (p + 1) S) ∨ (0 < p ∧ Rk Wf all k (p - 1) S)
/-- the steps from (p, S), K minutes left: the first that does -/
def Gs (Wf : Nat → Nat → Nat) (all : Nat) (st : Nat → Int32) : Nat → Nat → Nat → Nat → Prop
  | 0, _, _, _ => True
  | K + 1, k, p, S => (∃ nt, nt < 64 ∧ st k = nI nt ∧ Rk Wf all K p (S ||| Wf p nt) ∧ (∀ j, j < nt → ¬ Rk Wf all K p (S ||| Wf p j)) ∧ Gs Wf all st K (k + 1) p (S ||| Wf p nt)) ∨ ((∀ j, j < 64 → ¬ Rk Wf all K p (S ||| Wf p j)) ∧ p + 1 < 50 ∧ Rk Wf all K (p + 1) S ∧ st k = nI 64 ∧ Gs Wf all st K (k + 1) (p + 1) S)
def RT (Wf : Nat → Nat → Nat) (all : Nat) (can size : Int32) (st : Nat → Int32) : Prop := (can = 0 ∧ size = 0 ∧ ∀ k, ¬ Rk Wf all k 0 0) ∨ (can = 1 ∧ ∃ K, K ≤ 59 ∧ size = nI K ∧ Rk Wf all K 0 0 ∧ (∀ k, k < K → ¬ Rk Wf all k 0 0) ∧ Gs Wf all st K 0 0 0)
def RSite (n m : Nat) (σ : jS) : Prop :=
  (n ≤ 10 ∧ m ≤ 8) ∧ (g_i σ 32 1 = nI n ∧ g_i σ 34 1 = nI n ∧ g_i σ 36 1 = nI n ∧ g_i σ 38 1 = nI n ∧ g_i σ 101 0 = nI n) ∧
  (g_i σ 40 1 = nI m ∧ g_i σ 42 1 = nI m ∧ g_i σ 44 1 = nI m ∧ g_i σ 46 1 = nI m ∧ g_i σ 101 8 = nI m) ∧
  (rg (g_i σ 31 8) 1 99 ∧ g_i σ 101 5 = g_i σ 31 8) ∧ (rg (g_i σ 31 9) 1 99 ∧ g_i σ 101 6 = g_i σ 31 9) ∧ (rg (g_i σ 31 10) 1 50 ∧ g_i σ 101 7 = g_i σ 31 10) ∧
  (∀ l, l < n → (rg (g_i σ 33 l) 0 49 ∧ g_i σ 102 (4 * l) = g_i σ 33 l) ∧ (rg (g_i σ 37 l) 0 9 ∧ g_i σ 102 (4 * l + 2) = g_i σ 37 l) ∧ (rg (g_i σ 39 l) 0 5 ∧ g_i σ 102 (4 * l + 3) = g_i σ 39 l)) ∧
  (∀ s, s < m → (rg (g_i σ 41 s) 0 49 ∧ g_i σ 106 (4 * s) = g_i σ 41 s) ∧ (rg (g_i σ 43 s) 1 50 ∧ g_i σ 106 (4 * s + 1) = g_i σ 43 s) ∧ (rg (g_i σ 45 s) 0 63 ∧ g_i σ 106 (4 * s + 2) = g_i σ 45 s) ∧ (rg (g_i σ 47 s) (g_i σ 45 s).toInt 63 ∧ g_i σ 106 (4 * s + 3) = g_i σ 47 s))
/-- a moment at the cells b, b + 1 .. b + 4 -/
def RMom (n b : Nat) (σ : jS) : Prop := (∀ l, l < n → rg (g_i σ (b + 1) l) 0 63) ∧ (∀ l, l < 10 → rg (g_i σ (b + 2) l) 0 99 ∧ rg (g_i σ (b + 3) l) 0 99 ∧ (n ≤ l → g_i σ (b + 2) l = 0)) ∧ rg (g_i σ b 6) 0 9 ∧ rg (g_i σ b 7) 0 50 ∧ 0 ≤ (g_i σ b 8).toInt
def RNow (n : Nat) (σ : jS) : Prop := RMom n 57 σ ∧ (∀ l, l < n → g_i σ 102 (4 * l + 1) = g_i σ 58 l) ∧ (∀ l, l < 10 → g_i σ 103 l = g_i σ 59 l ∧ g_i σ 104 l = g_i σ 60 l ∧ (l < n → g_i σ 105 l = g_i σ 61 l)) ∧ g_i σ 101 14 = g_i σ 57 5 ∧ g_i σ 101 15 = g_i σ 57 6 ∧ g_i σ 101 16 = g_i σ 57 7 ∧ g_i σ 101 17 = g_i σ 57 8
def RImg (n b i : Nat) (σ : jS) : Prop := (g_i σ b 9 = 0 ∧ g_i σ 127 i = 0) ∨ (g_i σ b 9 = 1 ∧ g_i σ 127 i = 1 ∧ RMom n b σ ∧ (∀ l, l < n → g_i σ 126 (50 * i + l) = g_i σ (b + 1) l) ∧ (∀ l, l < 10 → g_i σ 126 (50 * i + 10 + l) = g_i σ (b + 2) l ∧ g_i σ 126 (50 * i + 20 + l) = g_i σ (b + 3) l ∧ (l < n → g_i σ 126 (50 * i + 30 + l) = g_i σ (b + 4) l)) ∧ g_i σ 126 (50 * i + 40) = g_i σ b 5 ∧ g_i σ 126 (50 * i + 41) = g_i σ b 6 ∧ g_i σ 126 (50 * i + 42) = g_i σ b 7 ∧ g_i σ 126 (50 * i + 43) = g_i σ b 8)
def RSongs (m : Nat) (σ : jS) : Prop := ∃ c, c ≤ 30 ∧ (g_i σ 49 1 = nI c ∧ g_i σ 51 1 = nI c ∧ g_i σ 53 1 = nI c ∧ g_i σ 101 10 = nI c) ∧ ∀ k, k < c → g_i σ 107 (3 * k) = g_i σ 50 k ∧ (rg (g_i σ 52 k) 0 ((m : Int) - 1) ∧ g_i σ 107 (3 * k + 1) = g_i σ 52 k) ∧ (rg (g_i σ 54 k) 0 63 ∧ g_i σ 107 (3 * k + 2) = g_i σ 54 k)
def RDays (σ : jS) : Prop := ∃ c, c ≤ 30 ∧ (g_i σ 55 1 = nI c ∧ g_i σ 101 12 = nI c) ∧ ∀ k, k < c → rg (g_i σ 56 k) 0 9 ∧ g_i σ 108 k = g_i σ 56 k
def RSig (n : Nat) (σ : jS) : Prop := ∃ c, c ≤ 8 ∧ (g_i σ 77 1 = nI c ∧ g_i σ 101 38 = nI c) ∧ ∀ k, k < c → rg (g_i σ 78 k) 0 ((2 : Int) ^ n - 1) ∧ g_i σ 116 k = g_i σ 78 k
def RLog (σ : jS) : Prop := ∃ c, c ≤ 40 ∧ (g_i σ 79 1 = nI c ∧ g_i σ 101 47 = nI c) ∧ ∀ k, k < c → g_i σ 124 k = g_i σ 80 k
def RText (σ : jS) : Prop := ∃ c, c ≤ 400 ∧ (g_i σ 1 1 = nI c ∧ g_i σ 101 19 = nI c) ∧ ∀ k, k < c → rg (g_i σ 2 k) 0 255 ∧ g_i σ 109 k = g_i σ 2 k
def RFault (σ : jS) : Prop := g_i σ 101 20 = g_i σ 30 5
def Wn (σ : jS) (n : Nat) (p nt : Nat) : Nat := bs (hd σ 57 p nt (g_i σ 31 10).toInt) n
def RTour (n : Nat) (σ : jS) : Prop := g_i σ 91 7 = 0 ∨ (g_i σ 91 7 = 1 ∧ RT (Wn σ n) (2 ^ n - 1) (g_i σ 91 6) (g_i σ 96 1) (g_i σ 97))
def Rel (σ : jS) : Prop := ∃ n m, RSite n m σ ∧ RNow n σ ∧ RSongs m σ ∧ RDays σ ∧ RSig n σ ∧ RLog σ ∧ RImg n 67 0 σ ∧ RImg n 72 1 σ ∧ RText σ ∧ RFault σ ∧ RTour n σ
/-! calls that only tell -/
theorem st_fault : sPP Rel (fun σ => f_X10_fault nmX σ) (fun σ => f_X11_fault nmM σ) := by
  rintro σ ⟨n, m, hSi, hN, hSo, hD, hSg, hL, hI0, hI1, hT, hF, hTo⟩
  exact ⟨g_i σ 30 5, rfl, congrArg some hF⟩
theorem ite_some {α : Type} {c : Prop} [Decidable c] {x y : α} {A : Option α} (h : c → A = some x) (h2 : ¬ c → A = some y) : A = some (if c then x else y) := by
  by_cases hc : c
  · rw [if_pos hc]; exact h hc
  · rw [if_neg hc]; exact h2 hc
theorem st_told (a : Int32) : sPP Rel (fun σ => f_X10_told nmX a σ) (fun σ => f_X11_told nmM a σ) := by
  rintro σ ⟨n, m, hSi, hN, hSo, hD, hSg, hL, hI0, hI1, hT, hF, hTo⟩
  obtain ⟨-, ⟨s1, s2, s3, s4, s5⟩, ⟨r1, r2, r3, r4, r5⟩, ⟨-, b1⟩, ⟨-, b2⟩, ⟨-, b3⟩, -⟩ := hSi
  obtain ⟨-, -, -, n1, n2, n3, -⟩ := hN
  obtain ⟨c1, -, ⟨o1, -, -, o2⟩, -⟩ := hSo
  obtain ⟨c2, -, ⟨d1, d2⟩, -⟩ := hD
  obtain ⟨c3, -, ⟨g1, g2⟩, -⟩ := hSg
  obtain ⟨c4, -, ⟨l1, l2⟩, -⟩ := hL
  obtain ⟨c5, -, ⟨t1, t2⟩, -⟩ := hT
  show ∃ r, f_X10_told nmX a σ = some r ∧ f_X11_told nmM a σ = some r
  unfold f_X10_told f_X11_told
  by_cases h0 : a = 0
  · simp only [if_pos h0]; exact ⟨_, rfl, congrArg some (s5.trans s1.symm)⟩
  simp only [if_neg h0]
  by_cases h1 : a = 1
  · simp only [if_pos h1]; exact ⟨_, rfl, congrArg some (r5.trans r1.symm)⟩
  simp only [if_neg h1]
  by_cases h2 : a = 2
  · simp only [if_pos h2]; exact ⟨_, rfl, congrArg some (o2.trans o1.symm)⟩
  simp only [if_neg h2]
  by_cases h3 : a = 3
  · simp only [if_pos h3]; exact ⟨_, rfl, congrArg some (d2.trans d1.symm)⟩
  simp only [if_neg h3]
  by_cases h4 : a = 4
  · simp only [if_pos h4]; exact ⟨_, rfl, congrArg some (g2.trans g1.symm)⟩
  simp only [if_neg h4]
  by_cases h5 : a = 5
  · simp only [if_pos h5]; exact ⟨_, rfl, congrArg some (l2.trans l1.symm)⟩
  simp only [if_neg h5]
  by_cases h6 : a = 6
  · simp only [if_pos h6]; exact ⟨_, rfl, congrArg some (t2.trans t1.symm)⟩
  simp only [if_neg h6]
  by_cases h7 : a = 7
  · simp only [if_pos h7]; exact ⟨_, rfl, congrArg some b1⟩
  simp only [if_neg h7]
  by_cases h8 : a = 8
  · simp only [if_pos h8]; exact ⟨_, rfl, congrArg some b2⟩
  simp only [if_neg h8]
  by_cases h9 : a = 9
  · simp only [if_pos h9]; exact ⟨_, rfl, congrArg some b3⟩
  simp only [if_neg h9]
  by_cases h10 : a = 10
  · simp only [if_pos h10]; exact ⟨_, rfl, congrArg some n1⟩
  simp only [if_neg h10]
  by_cases h11 : a = 11
  · simp only [if_pos h11]; exact ⟨_, rfl, congrArg some n2⟩
  simp only [if_neg h11]
  by_cases h12 : a = 12
  · simp only [if_pos h12]; exact ⟨_, rfl, congrArg some n3⟩
  simp only [if_neg h12]
  exact ⟨_, rfl, rfl⟩
theorem st_seed (a : Int32) : sII Rel (fun σ => f_X10_seed nmX a σ) (fun σ => f_X11_seed nmM a σ) := by
  rintro σ ⟨n, m, hSi, hN, hSo, hD, hSg, hL, hI0, hI1, hT, hF, hTo⟩
  show ∃ r σ1 τ, f_X10_seed nmX a σ = some (r, σ1) ∧ f_X11_seed nmM a σ1 = some (r, τ) ∧ Rel τ
  unfold f_X10_seed f_X11_seed
  by_cases h : 0 ≤ a
  · simp only [if_pos h]
    refine ⟨_, _, _, rfl, congrArg (fun z => some (z, _)) ?_, n, m, hSi, ?_, hSo, hD, hSg, hL, hI0, hI1, hT, hF, hTo⟩
    · exact hN.2.2.2.2.2.2
    · obtain ⟨⟨m1, m2, m3, m4, m5⟩, n0, n1, n2, n3, n4, n5⟩ := hN
      refine ⟨⟨m1, m2, m3, m4, ?_⟩, n0, n1, n2, n3, n4, rfl⟩
      show (0 : Int) ≤ a.toInt
      exact Int32.le_iff_toInt_le.mp h
  · simp only [if_neg h]
    exact ⟨_, _, _, rfl, rfl, n, m, hSi, hN, hSo, hD, hSg, hL, hI0, hI1, hT, hF, hTo⟩
theorem st_forget : sII Rel (fun σ => f_X10_forget nmX σ) (fun σ => f_X11_forget nmM σ) := by
  rintro σ ⟨n, m, hSi, hN, hSo, hD, hSg, hL, hI0, hI1, hT, hF, hTo⟩
  obtain ⟨c3, h8, ⟨g1, g2⟩, -⟩ := hSg
  exact ⟨_, _, _, rfl, congrArg (fun z => some (z, _)) (g2.trans g1.symm), n, m, hSi, hN, hSo, hD, ⟨0, Nat.zero_le _, ⟨rfl, rfl⟩, fun k hk => absurd hk (Nat.not_lt_zero k)⟩, hL, hI0, hI1, hT, hF, hTo⟩
theorem st_clear : sII Rel (fun σ => f_X10_clear nmX σ) (fun σ => f_X11_clear nmM σ) := by
  rintro σ ⟨n, m, hSi, hN, hSo, hD, hSg, hL, hI0, hI1, hT, hF, hTo⟩
  obtain ⟨c3, h8, ⟨g1, g2⟩, -⟩ := hL
  exact ⟨_, _, _, rfl, congrArg (fun z => some (z, _)) (g2.trans g1.symm), n, m, hSi, hN, hSo, hD, hSg, ⟨0, Nat.zero_le _, ⟨rfl, rfl⟩, fun k hk => absurd hk (Nat.not_lt_zero k)⟩, hI0, hI1, hT, hF, hTo⟩
