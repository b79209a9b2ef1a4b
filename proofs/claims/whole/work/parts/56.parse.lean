/-! reading, as one function of the text for both sides -/
abbrev PE (α : Type) : Type := Except (Nat × Nat) α
def sk (F : Nat → Int32) (c p : Nat) : Nat := advF b32 F (c - p) p
def dg (F : Nat → Int32) (c p : Nat) : Nat := advF bDig F (c - p) p
def lw (F : Nat → Int32) (c p : Nat) : Nat := advF bLet F (c - p) p
theorem sk_le (F : Nat → Int32) {c p : Nat} (h : p ≤ c) : p ≤ sk F c p ∧ sk F c p ≤ c := by
  have := advF_le b32 F (c - p) p
  unfold sk; omega
theorem dg_le (F : Nat → Int32) {c p : Nat} (h : p ≤ c) : p ≤ dg F c p ∧ dg F c p ≤ c := by
  have := advF_le bDig F (c - p) p
  unfold dg; omega
theorem lw_le (F : Nat → Int32) {c p : Nat} (h : p ≤ c) : p ≤ lw F c p ∧ lw F c p ≤ c := by
  have := advF_le bLet F (c - p) p
  unfold lw; omega
theorem sk_sk (F : Nat → Int32) {c p : Nat} (h : p ≤ c) : sk F c (sk F c p) = sk F c p := by
  have hl := sk_le F h
  by_cases hq : sk F c p < c
  · have he : b32 (F (sk F c p)) = false := advF_end b32 F (c - p) p (by show sk F c p < _; omega)
    generalize sk F c p = q at he hq
    unfold sk
    obtain ⟨u, hu⟩ : ∃ u, c - q = u + 1 := ⟨c - q - 1, by omega⟩
    rw [hu]
    unfold advF
    rw [if_neg (by rw [he]; decide)]
  · generalize sk F c p = q at hq hl
    unfold sk
    rw [show c - q = 0 by omega]; rfl
theorem sk_cong {F G : Nat → Int32} {c p : Nat} (h : ∀ k, k < c → G k = F k) : sk G c p = sk F c p := advF_cong _ _ (fun k _ h2 => h k (by omega))
theorem dg_cong {F G : Nat → Int32} {c p : Nat} (h : ∀ k, k < c → G k = F k) : dg G c p = dg F c p := advF_cong _ _ (fun k _ h2 => h k (by omega))
theorem lw_cong {F G : Nat → Int32} {c p : Nat} (h : ∀ k, k < c → G k = F k) : lw G c p = lw F c p := advF_cong _ _ (fun k _ h2 => h k (by omega))
theorem nmF_cong {f g : Nat → Int32} : ∀ n p (x : Int32), (∀ k, p ≤ k → k < p + n → f k = g k) → nmF f n p x = nmF g n p x
  | 0, _, _, _ => rfl
  | n + 1, p, x, h => by
    unfold nmF
    rw [h p (Nat.le_refl _) (by omega), nmF_cong n (p + 1) _ (fun k h1 h2 => h k (by omega) (by omega))]
def numV (F : Nat → Int32) (c p : Nat) : Int32 := nmF F (min 3 (dg F c (sk F c p) - sk F c p)) (sk F c p) 0
theorem numV_cong {F G : Nat → Int32} {c p : Nat} (hp : p ≤ c) (h : ∀ k, k < c → G k = F k) : numV G c p = numV F c p := by
  unfold numV
  rw [sk_cong h, dg_cong h]
  have h1 := sk_le F hp
  have h2 := dg_le F h1.2
  exact nmF_cong _ _ _ (fun k _ hk => h k (by omega))
def numP (F : Nat → Int32) (c : Nat) (lo hi : Int32) (p : Nat) : PE (Int32 × Nat) :=
  if dg F c (sk F c p) = sk F c p then .error (1, sk F c p)
  else if 3 < dg F c (sk F c p) - sk F c p ∨ ¬ (lo.toInt ≤ (numV F c p).toInt ∧ (numV F c p).toInt ≤ hi.toInt) then .error (2, sk F c p)
  else .ok (numV F c p, dg F c (sk F c p))
def stopP (F : Nat → Int32) (c p : Nat) : PE Nat := if sk F c p < c ∧ F (sk F c p) = 59 then .ok (sk F c p + 1) else .error (1, sk F c p)
def bP {α β : Type} : PE α → (α → PE β) → PE β
  | .ok a, f => f a
  | .error e, _ => .error e
def nx {α : Type} : PE (α × Nat) → PE Nat
  | .ok a => .ok a.2
  | .error e => .error e
def flP {α β : Type} : PE α → Nat × Nat → PE β
  | .ok _, e => .error e
  | .error e, _ => .error e
theorem numP_ok {F : Nat → Int32} {c p r : Nat} {lo hi v : Int32} (hp : p ≤ c) (h : numP F c lo hi p = .ok (v, r)) : (lo.toInt ≤ v.toInt ∧ v.toInt ≤ hi.toInt) ∧ p ≤ r ∧ r ≤ c ∧ v = numV F c p ∧ r = dg F c (sk F c p) := by
  have h1 := sk_le F hp
  have h2 := dg_le F h1.2
  unfold numP at h
  by_cases ha : dg F c (sk F c p) = sk F c p
  · rw [if_pos ha] at h; cases h
  rw [if_neg ha] at h
  by_cases hb : 3 < dg F c (sk F c p) - sk F c p ∨ ¬ (lo.toInt ≤ (numV F c p).toInt ∧ (numV F c p).toInt ≤ hi.toInt)
  · rw [if_pos hb] at h; cases h
  rw [if_neg hb] at h
  have h := Except.ok.inj h
  have e1 : numV F c p = v := congrArg Prod.fst h
  have e2 : dg F c (sk F c p) = r := congrArg Prod.snd h
  have hb := not_or.mp hb
  have hb2 := Classical.not_not.mp hb.2
  rw [e1] at hb2
  exact ⟨hb2, by omega, by omega, e1.symm, e2.symm⟩
theorem stopP_ok {F : Nat → Int32} {c p r : Nat} (hp : p ≤ c) (h : stopP F c p = .ok r) : p < r ∧ r ≤ c := by
  have h1 := sk_le F hp
  unfold stopP at h
  by_cases ha : sk F c p < c ∧ F (sk F c p) = 59
  · rw [if_pos ha] at h
    have h := Except.ok.inj h
    omega
  · rw [if_neg ha] at h; cases h
/-! the class's reader -/
def w30 (a _k : Nat) : Bool := decide (a = 30)
def XC (F : Nat → Int32) (c : Nat) (σ : jS) : Prop := c ≤ 400 ∧ g_i σ 1 1 = nI c ∧ ∀ k, k < c → g_i σ 2 k = F k
def XE : PE Nat → Nat → jS → Prop
  | .ok q, p, σ => q = p ∧ g_i σ 30 4 = 0 ∧ g_i σ 30 5 = -1
  | .error e, _, σ => (1 ≤ e.1 ∧ e.1 ≤ 4) ∧ g_i σ 30 4 = nI e.1 ∧ g_i σ 30 5 = nI e.2
def XR (c : Nat) (st : PE Nat) (σ : jS) : Prop := ∃ p, p ≤ c ∧ g_i σ 30 1 = nI p ∧ XE st p σ
theorem XC.cg {W : Nat → Nat → Bool} {F : Nat → Int32} {c : Nat} {σ τ : jS} (hu : ux W σ τ) (h1 : W 1 1 = false) (h2 : ∀ k, W 2 k = false) (h : XC F c σ) : XC F c τ :=
  ⟨h.1, (hu 1 1 h1).trans h.2.1, fun k hk => (hu 2 k (h2 k)).trans (h.2.2 k hk)⟩
theorem XR.cg {W : Nat → Nat → Bool} {c : Nat} {st : PE Nat} {σ τ : jS} (hu : ux W σ τ) (h1 : ∀ k, W 30 k = false) (h : XR c st σ) : XR c st τ := by
  obtain ⟨p, hp, e1, he⟩ := h
  refine ⟨p, hp, (hu 30 1 (h1 1)).trans e1, ?_⟩
  cases st with
  | ok q => exact ⟨he.1, (hu 30 4 (h1 4)).trans he.2.1, (hu 30 5 (h1 5)).trans he.2.2⟩
  | error e => exact ⟨he.1, (hu 30 4 (h1 4)).trans he.2.1, (hu 30 5 (h1 5)).trans he.2.2⟩
theorem ux30 {σ τ : jS} (h : ux w30 σ τ) {k : Nat} {v : Int32} : ux w30 σ (s_i τ 30 k v) := ux_s h rfl
theorem xfail {nm : Nat → Nat} {c n q : Nat} {st : PE Nat} {σ : jS} (h0 : nm 0 = 30) (hn : 1 ≤ n ∧ n ≤ 4) (hR : XR c st σ) : ∃ τ, f_X3_fail nm (nI n) (nI q) σ = some τ ∧ ux w30 σ τ ∧ XR c (flP st (n, q)) τ ∧ (∀ k, k ≠ 4 → k ≠ 5 → g_i τ 30 k = g_i σ 30 k) := by
  obtain ⟨p, hp, e1, he⟩ := hR
  unfold f_X3_fail
  rw [h0]
  cases st with
  | ok r =>
    rw [if_pos he.2.1]
    refine ⟨_, rfl, ux30 (ux30 (ux_refl _ _)), ⟨p, hp, e1, ⟨hn, ?_, ?_⟩⟩, fun k h4 h5 => ?_⟩
    · exact (s_i_k (show (4 : Nat) ≠ 5 by decide)).trans (s_i_eq _ _ _ _)
    · exact s_i_eq _ _ _ _
    · exact (s_i_k h5).trans (s_i_k h4)
  | error e =>
    have hz : ¬ g_i σ 30 4 = 0 := by
      rw [he.2.1]
      intro h
      have h := congrArg Int32.toInt h
      rw [nI_ti (by have := he.1; omega)] at h
      have h : (e.1 : Int) = 0 := h
      have := he.1; omega
    rw [if_neg hz]
    exact ⟨σ, rfl, ux_refl _ _, ⟨p, hp, e1, he⟩, fun _ _ _ => rfl⟩
/-- a number, class side -/
theorem xnumR {nm : Nat → Nat} {F : Nat → Int32} {c : Nat} {lo hi : Int32} {st : PE Nat} {σ : jS} (h0 : nm 0 = 30) (h1 : nm 1 = 1) (h2 : nm 2 = 2) (hC : XC F c σ) (hR : XR c st σ) : ∃ w τ, f_X3_readNumber nm lo hi σ = some (w, τ) ∧ ux w30 σ τ ∧ XR c (nx (bP st (numP F c lo hi))) τ ∧ (∀ p, st = .ok p → w = numV F c p ∧ g_i τ 30 3 = nI (sk F c p)) := by
  obtain ⟨p, hp, ep, he⟩ := hR
  have hT := hC.2.2
  obtain ⟨⟨b1, b2, b3⟩, en⟩ := xnum (lo := lo) (hi := hi) h0 h1 h2 hC.1 hC.2.1 hp ep (q := sk F c p) (r := dg F c (sk F c p)) (sk_cong hT).symm (dg_cong hT).symm rfl rfl
  rw [show nmF (g_i σ 2) (min 3 (dg F c (sk F c p) - sk F c p)) (sk F c p) 0 = numV F c p from nmF_cong _ _ _ (fun k _ hk => hT k (by omega))] at en
  generalize hS : s_i (s_i (s_i σ 30 1 (nI (sk F c p))) 30 3 (nI (sk F c p))) 30 1 (nI (dg F c (sk F c p))) = S at en
  have uS : ux w30 σ S := by rw [← hS]; exact ux30 (ux30 (ux30 (ux_refl _ _)))
  have eS1 : g_i S 30 1 = nI (dg F c (sk F c p)) := by rw [← hS]; exact s_i_eq _ _ _ _
  have eS3 : g_i S 30 3 = nI (sk F c p) := by rw [← hS]; exact (s_i_k (show (3 : Nat) ≠ 1 by decide)).trans (s_i_eq _ _ _ _)
  have eSo : ∀ k, k ≠ 1 → k ≠ 3 → g_i S 30 k = g_i σ 30 k := fun k k1 k3 => by rw [← hS]; exact (s_i_k k1).trans ((s_i_k k3).trans (s_i_k k1))
  have rS : XR c (bP st (fun _ => .ok (dg F c (sk F c p)))) S := by
    refine ⟨_, b3, eS1, ?_⟩
    cases st with
    | ok r => exact ⟨rfl, (eSo 4 (by decide) (by decide)).trans he.2.1, (eSo 5 (by decide) (by decide)).trans he.2.2⟩
    | error e => exact ⟨he.1, (eSo 4 (by decide) (by decide)).trans he.2.1, (eSo 5 (by decide) (by decide)).trans he.2.2⟩
  have key : ∀ n, 1 ≤ n ∧ n ≤ 4 → (∀ q, st = .ok q → numP F c lo hi q = .error (n, sk F c p)) → ∃ w τ, ((f_X3_fail nm (nI n) (nI (sk F c p)) S).bind (fun s => some (numV F c p, s))) = some (w, τ) ∧ ux w30 σ τ ∧ XR c (nx (bP st (numP F c lo hi))) τ ∧ (∀ p, st = .ok p → w = numV F c p ∧ g_i τ 30 3 = nI (sk F c p)) := by
    intro n hn hst
    obtain ⟨τ, e, u, x, o⟩ := xfail (q := sk F c p) h0 hn rS
    refine ⟨numV F c p, τ, by rw [e]; rfl, ux_tr uS u, ?_, ?_⟩
    · cases st with
      | ok r =>
        have := hst r rfl
        show XR c (nx (numP F c lo hi r)) τ
        rw [this]; exact x
      | error e => exact x
    · intro p' hp'
      subst hp'
      have : p' = p := he.1
      subst this
      exact ⟨rfl, (o 3 (by decide) (by decide)).trans eS3⟩
  have hpq : ∀ q, st = .ok q → q = p := fun q hq => by subst hq; exact he.1
  by_cases ha : dg F c (sk F c p) = sk F c p
  · rw [if_pos ha] at en
    obtain ⟨w, τ, e, x⟩ := key 1 (by omega) (fun q hq => by rw [hpq q hq]; unfold numP; rw [if_pos ha])
    exact ⟨w, τ, en.trans e, x⟩
  · rw [if_neg ha] at en
    by_cases hb : 3 < dg F c (sk F c p) - sk F c p ∨ ¬ (lo.toInt ≤ (numV F c p).toInt ∧ (numV F c p).toInt ≤ hi.toInt)
    · rw [if_pos hb] at en
      obtain ⟨w, τ, e, x⟩ := key 2 (by omega) (fun q hq => by rw [hpq q hq]; unfold numP; rw [if_neg ha, if_pos hb])
      exact ⟨w, τ, en.trans e, x⟩
    · rw [if_neg hb] at en
      refine ⟨_, S, en, uS, ?_, ?_⟩
      · cases st with
        | ok r =>
          have hr := hpq r rfl
          subst hr
          have e : numP F c lo hi r = .ok (numV F c r, dg F c (sk F c r)) := by unfold numP; rw [if_neg ha, if_neg hb]
          show XR c (nx (numP F c lo hi r)) S
          rw [e]; exact rS
        | error e => exact rS
      · intro p' hp'
        rw [hpq p' hp']
        exact ⟨rfl, eS3⟩
theorem xendR {nm : Nat → Nat} {F : Nat → Int32} {c : Nat} {st : PE Nat} {σ : jS} (h0 : nm 0 = 30) (h1 : nm 1 = 1) (h2 : nm 2 = 2) (hC : XC F c σ) (hR : XR c st σ) : ∃ τ, f_X3_endClause nm σ = some τ ∧ ux w30 σ τ ∧ XR c (bP st (stopP F c)) τ := by
  obtain ⟨p, hp, ep, he⟩ := hR
  have hT := hC.2.2
  obtain ⟨⟨b1, b2⟩, en⟩ := xend h0 h1 h2 hC.1 hC.2.1 hp ep (q := sk F c p) (sk_cong hT).symm
  have hpq : ∀ q, st = .ok q → q = p := fun q hq => by subst hq; exact he.1
  have mv : ∀ r, r ≤ c → XR c (bP st (fun _ => .ok r)) (s_i σ 30 1 (nI r)) := fun r hr => by
    refine ⟨r, hr, s_i_eq _ _ _ _, ?_⟩
    cases st with
    | ok q => exact ⟨rfl, (s_i_k (by decide)).trans he.2.1, (s_i_k (by decide)).trans he.2.2⟩
    | error e => exact ⟨he.1, (s_i_k (by decide)).trans he.2.1, (s_i_k (by decide)).trans he.2.2⟩
  by_cases ha : sk F c p < c ∧ F (sk F c p) = 59
  · rw [if_pos ⟨ha.1, (hT _ ha.1).trans ha.2⟩] at en
    refine ⟨_, en, ux30 (ux_refl _ _), ?_⟩
    have x := mv (sk F c p + 1) (by omega)
    cases st with
    | ok q =>
      have hq := hpq q rfl
      subst hq
      show XR c (stopP F c q) _
      unfold stopP
      rw [if_pos ha]; exact x
    | error e => exact x
  · rw [if_neg (fun h => ha ⟨h.1, (hT _ h.1).symm.trans h.2⟩)] at en
    obtain ⟨τ, e, u, x, -⟩ := xfail (n := 1) (q := sk F c p) h0 (by omega) (mv (sk F c p) b2)
    refine ⟨τ, en.trans e, ux_tr (ux30 (ux_refl _ _)) u, ?_⟩
    cases st with
    | ok q =>
      have hq := hpq q rfl
      subst hq
      show XR c (stopP F c q) _
      unfold stopP
      rw [if_neg ha]; exact x
    | error e => exact x
/-- whether more stands there, class side -/
theorem xmore {nm : Nat → Nat} {F : Nat → Int32} {c : Nat} {st : PE Nat} {σ : jS} (h0 : nm 0 = 30) (h1 : nm 1 = 1) (h2 : nm 2 = 2) (hC : XC F c σ) (hR : XR c st σ) : ∃ τ v, f_X3_hasMore nm σ = some (v, τ) ∧ ux w30 σ τ ∧ XR c (bP st (fun p => .ok (sk F c p))) τ ∧ (∀ p, st = .ok p → v = if sk F c p < c then 1 else 0) ∧ (∀ e, st = .error e → v = 0) := by
  obtain ⟨p, hp, ep, he⟩ := hR
  have hT := hC.2.2
  have hl := sk_le F hp
  have es := xskip h0 h1 h2 hC.1 hC.2.1 hp ep
  rw [show advF b32 (g_i σ 2) (c - p) p = sk F c p from sk_cong hT] at es
  have e4 : g_i (s_i σ 30 1 (nI (sk F c p))) 30 4 = g_i σ 30 4 := s_i_k (by decide)
  have e5 : g_i (s_i σ 30 1 (nI (sk F c p))) 30 5 = g_i σ 30 5 := s_i_k (by decide)
  have ez : f_X4_size (jn nm [1, 2]) 400 (s_i σ 30 1 (nI (sk F c p))) = some (nI c) := by
    show some (g_i (s_i σ 30 1 (nI (sk F c p))) (nm 1) 1) = _
    rw [h1]; exact congrArg some hC.2.1
  unfold f_X3_hasMore
  rw [es, bnd]
  unfold f_X3_hasFault
  rw [h0, e4, ez]
  cases st with
  | ok q =>
    have hq : q = p := he.1
    subst hq
    rw [if_pos he.2.1, bnd, if_pos rfl, bnd, s_i_eq]
    have hk : XR c (.ok (sk F c q)) (s_i σ 30 1 (nI (sk F c q))) := ⟨_, hl.2, s_i_eq _ _ _ _, rfl, e4.trans he.2.1, e5.trans he.2.2⟩
    by_cases hc : sk F c q < c
    · rw [if_neg (by rw [nI_le' (by have := hC.1; omega) (by have := hC.1; omega)]; omega)]
      exact ⟨_, _, rfl, ux30 (ux_refl _ _), hk, fun p hp => by cases hp; rw [if_pos hc], fun e h => by cases h⟩
    · rw [if_pos (by rw [nI_le' (by have := hC.1; omega) (by have := hC.1; omega)]; omega)]
      exact ⟨_, _, rfl, ux30 (ux_refl _ _), hk, fun p hp => by cases hp; rw [if_neg hc], fun e h => by cases h⟩
  | error e =>
    have hz : ¬ g_i σ 30 4 = 0 := by
      rw [he.2.1]
      intro h
      have h := congrArg Int32.toInt h
      rw [nI_ti (by have := he.1; omega)] at h
      have h : (e.1 : Int) = 0 := h
      have := he.1; omega
    rw [if_neg hz, bnd, if_neg i10]
    exact ⟨_, _, rfl, ux30 (ux_refl _ _), ⟨_, hl.2, s_i_eq _ _ _ _, he.1, e4.trans he.2.1, e5.trans he.2.2⟩, (fun p h => by cases h), fun _ _ => rfl⟩
