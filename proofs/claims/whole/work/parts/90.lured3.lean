/-! lured, apart: both -/
theorem ans_eq {Fam : Nat → Prop} {M v v' : Nat} (hv : v ≤ 100000) (hl : Lst Fam v M) (hv' : v' ≤ 1000000) (h1 : (v' < 1000000 ∧ Cv Fam v' M) ∨ v' = 1000000) (h2 : ∀ k, Cv Fam k M → v' ≤ k) : (if v < 100000 then nI v else -1) = (if v' < 1000000 then nI v' else (-1 : Int32)) := by
  rcases hl with ⟨a1, a2, a3⟩ | ⟨a1, a2⟩
  · have := h2 v a2
    rcases h1 with ⟨b1, b2⟩ | b1
    · have : ¬ v' < v := fun z => a3 v' z b2
      have : v = v' := by omega
      rw [this, if_pos (by omega), if_pos (by omega)]
    · omega
  · rcases h1 with ⟨b1, b2⟩ | b1
    · exact absurd b2 (a2 v')
    · rw [if_neg (by omega), if_neg (by omega)]
theorem SOk.cg {W : Nat → Nat → Nat} {nb : Nat → Bool} {dn : Nat → Nat → Prop} {V : Nat → Nat → Bool} {σ τ : jS} (hu : ux V σ τ) (hV : ∀ a k, 84 ≤ a → a ≤ 86 → V a k = false) (h : SOk W nb dn σ) : SOk W nb dn τ := by
  obtain ⟨m, a, h1, h2, h3, h4, h5, h6⟩ := h
  refine ⟨m, a, h1, ⟨(hu 84 1 (hV _ _ (by omega) (by omega))).trans h2.1, fun k hk => by rw [hu 85 k (hV _ _ (by omega) (by omega))]; exact h2.2 k hk⟩, h3, h4, h5, fun x hx => ?_⟩
  rw [hu 86 x (hV _ _ (by omega) (by omega))]; exact h6 x hx
theorem whX : whNm (jn nmX [83, 81, 82, 84, 85, 86, 87, 88, 89, 90]) := ⟨rfl, rfl, rfl, rfl, rfl, rfl, rfl, rfl⟩
theorem Wt_cg {n : Nat} {lo : Int32} {V : Nat → Nat → Bool} {σ τ : jS} (u : ux V σ τ) (hV : ∀ a k, 31 ≤ a → a ≤ 61 → V a k = false) : Wt τ n lo = Wt σ n lo := by
  funext p t
  unfold Wt
  congr 1
  funext l
  unfold hd
  rw [u (57 + 1) l (hV _ _ (by omega) (by omega)), u 39 l (hV _ _ (by omega) (by omega)), u 57 6 (hV _ _ (by omega) (by omega)), u 37 l (hV _ _ (by omega) (by omega)), u 33 l (hV _ _ (by omega) (by omega))]
/-- listening and gathering -/
theorem lg_c {n m : Nat} {lo : Int32} {notes : Int64} {σ : jS} (hS : RSite n m σ) (hN : RNow n σ) (hlo : rg lo 1 50) : ∃ τ1 τ2, f_X1_listen (jn nmX [81, 82, 57, 31, 32, 33, 34, 35, 36, 37, 38, 39, 40, 41, 42, 43, 44, 45, 46, 47, 58, 59, 60, 61]) lo σ = some τ1 ∧ f_X9_gather (jn nmX [83, 81, 82, 84, 85, 86, 87, 88, 89, 90]) notes τ1 = some τ2 ∧ ux wSc σ τ2 ∧ SOk (Wt σ n lo) (bN notes.toBitVec) (fun _ _ => True) τ2 := by
  have hp := pow10 hS.1.1
  obtain ⟨τ1, e1, u1, k1⟩ := listen_c hearX (sok hS hN.1) hlo
  obtain ⟨τ2, e2, u2, s2⟩ := gather_c (W := Wt σ n lo) (notes := notes) (σ := τ1) whX (fun p t hp' ht' => ⟨k1 p t hp' ht', by have := Wt_lt σ n lo p t; omega⟩)
  exact ⟨τ1, τ2, e1, e2, ux_tr (sc82 u1) (ux_w u2 (fun a k hk => by
    have hk := of_decide_eq_false hk
    exact decide_eq_false (by omega))), s2⟩
theorem site_sc {n m : Nat} {σ τ : jS} (u : ux wSc σ τ) (h : RSite n m σ) : RSite n m τ := RSite.cg u ⟨fun _ => rfl, fun _ => rfl, fun _ => rfl, fun _ => rfl, fun _ => rfl, fun _ => rfl, fun _ => rfl, fun _ => rfl, fun _ => rfl, fun _ => rfl, fun _ => rfl, fun _ => rfl, fun _ => rfl, fun _ => rfl, fun _ => rfl, fun _ => rfl, fun _ => rfl, rfl, rfl, rfl, rfl, rfl⟩ (fun l _ => ⟨rfl, rfl, rfl⟩) h
theorem now_sc {n : Nat} {σ τ : jS} (u : ux wSc σ τ) (h : RNow n σ) : RNow n τ := RNow.cg u ⟨fun _ => rfl, fun _ => rfl, fun _ => rfl, fun _ => rfl, fun _ => rfl, fun _ => rfl, fun _ => rfl, rfl, rfl, rfl, rfl, rfl, rfl, rfl, rfl⟩ (fun _ _ => rfl) h
theorem fs_sc {σ τ : jS} (u : ux wFs σ τ) : ux wSc σ τ := ux_w u (fun a k hk => by
  have hk := of_decide_eq_false hk
  exact decide_eq_false (by omega))
theorem lu_sc {σ τ : jS} (u : ux wLu σ τ) : ux wSc σ τ := ux_w u (fun a k hk => by
  have hk := of_decide_eq_false hk
  exact decide_eq_false (by omega))
theorem Wt_sc {n : Nat} {lo : Int32} {σ τ : jS} (u : ux wSc σ τ) : Wt τ n lo = Wt σ n lo := Wt_cg u (fun a k h1 h2 => decide_eq_false (by omega))
theorem st_lured (a b : Int32) (notes : Int64) (l : Int32) : sII Rel (fun σ => f_X10_lured nmX a b notes l σ) (fun σ => f_X11_lured nmM a b notes l σ) := by
  intro σ hR
  obtain ⟨n, m, hS, hN⟩ := rel_s hR
  have hp := pow10 hS.1.1
  show ∃ r σ1 τ, f_X10_lured nmX a b notes l σ = some (r, σ1) ∧ f_X11_lured nmM a b notes l σ1 = some (r, τ) ∧ Rel τ
  unfold f_X10_lured f_X11_lured
  obtain ⟨v1, e1, e2, hv1⟩ := known_eq hS a
  obtain ⟨v2, e3, e4, hv2⟩ := known_eq hS b
  obtain ⟨w, e5, e6, hw⟩ := loud_eq l
  rw [e1, bnd]
  rcases hv1 with ⟨rfl, A, hA, rfl⟩ | ⟨rfl, -⟩
  · rw [if_neg i10, e3, bnd]
    rcases hv2 with ⟨rfl, B, hB, rfl⟩ | ⟨rfl, -⟩
    · rw [if_neg i10, e5, bnd]
      rcases hw with ⟨rfl, hlo⟩ | ⟨rfl, -⟩
      · rw [if_neg i10]
        obtain ⟨τ1, τ2, q1, q2, u2, s2⟩ := lg_c (notes := notes) hS hN hlo
        rw [q1, bnd, q2, bnd]
        obtain ⟨r, τ3, q3, u3, hr⟩ := sounds_c (from' := A) (to := B) whX s2 (by omega) (by omega)
        rw [q3, bnd]
        have u03 : ux wSc σ τ3 := ux_tr u2 (fs_sc u3)
        have hSτ := site_sc u03 hS
        have hNτ := now_sc u03 hN
        obtain ⟨r', τ4, q4, u4, hr'⟩ := lured_c (notes := notes) (from' := A) (to := B) hSτ hNτ hlo hA hB
        rw [Wt_sc u03] at hr'
        have hrr : r = r' := by
          rcases hr with ⟨s1, rfl⟩ | ⟨s1, v, hv, hl, rfl⟩
          · rcases hr' with ⟨-, rfl⟩ | ⟨s2, -⟩
            · rfl
            · exact absurd s2 s1
          · rcases hr' with ⟨s2, -⟩ | ⟨-, v', hv', z1, z2, rfl⟩
            · exact absurd s1 s2
            · exact ans_eq hv hl hv' z1 z2
        refine ⟨r, τ3, τ4, rfl, ?_, rel_sc (ux_tr u03 (lu_sc u4)) hR⟩
        obtain ⟨y1, -, y2, hy⟩ := known_eq hSτ (nI A)
        rcases hy with ⟨rfl, -⟩ | ⟨rfl, hy⟩
        · obtain ⟨y3, -, y4, hy3⟩ := known_eq hSτ (nI B)
          rcases hy3 with ⟨rfl, -⟩ | ⟨rfl, hy3⟩
          · rw [y2, bnd, if_neg i10, y4, bnd, if_neg i10, e6, bnd, if_neg i10, q4, bnd, hrr]
          · exact absurd ⟨B, hB, rfl⟩ hy3
        · exact absurd ⟨A, hA, rfl⟩ hy
      · rw [if_pos rfl]
        refine ⟨_, σ, σ, rfl, ?_, hR⟩
        rw [e2, bnd, if_neg i10, e4, bnd, if_neg i10, e6, bnd, if_pos rfl]
    · rw [if_pos rfl]
      refine ⟨_, σ, σ, rfl, ?_, hR⟩
      rw [e2, bnd, if_neg i10, e4, bnd, if_pos rfl]
  · rw [if_pos rfl]
    refine ⟨_, σ, σ, rfl, ?_, hR⟩
    rw [e2, bnd, if_pos rfl]
/-! apart: pair by pair -/
def nearP (W : Nat → Nat → Nat) (nb : Nat → Bool) (s : Nat → Nat) (d a b : Nat) : Prop := a ≠ b ∧ sub (s a) (s b) ∧ ∃ v, v < d ∧ Cv (FamL W nb (s b)) v (sd (s b) (s a))
noncomputable def NB (W : Nat → Nat → Nat) (nb : Nat → Bool) (s : Nat → Nat) (d a b : Nat) : Bool := @decide (nearP W nb s d a b) (Classical.propDecidable _)
theorem NB_t {W : Nat → Nat → Nat} {nb : Nat → Bool} {s : Nat → Nat} {d a b : Nat} (h : nearP W nb s d a b) : NB W nb s d a b = true := by
  unfold NB; exact @decide_eq_true _ (Classical.propDecidable _) h
theorem NB_f {W : Nat → Nat → Nat} {nb : Nat → Bool} {s : Nat → Nat} {d a b : Nat} (h : ¬ nearP W nb s d a b) : NB W nb s d a b = false := by
  unfold NB; exact @decide_eq_false _ (Classical.propDecidable _) h
def rI (f : Nat → Bool) (i : Int32) (a : Nat) : Nat → Nat → Nat → Nat ⊕ Nat
  | 0, _, c => .inl c
  | k + 1, b, c => if f b = true then (if nI c = i then .inr (100 * a + b) else rI f i a k (b + 1) (c + 1)) else rI f i a k (b + 1) c
def rO (f : Nat → Nat → Bool) (i : Int32) (n : Nat) : Nat → Nat → Nat → Nat ⊕ Nat
  | 0, _, c => .inl c
  | k + 1, a, c => match rI (f a) i a n 0 c with
    | .inl c' => rO f i n k (a + 1) c'
    | .inr x => .inr x
theorem rO_l {f : Nat → Nat → Bool} {i : Int32} {n k a c c' : Nat} (h : rI (f a) i a n 0 c = .inl c') : rO f i n (k + 1) a c = rO f i n k (a + 1) c' := by
  show (match rI (f a) i a n 0 c with
    | .inl c' => rO f i n k (a + 1) c'
    | .inr x => .inr x) = _
  rw [h]
theorem rO_r {f : Nat → Nat → Bool} {i : Int32} {n k a c x : Nat} (h : rI (f a) i a n 0 c = .inr x) : rO f i n (k + 1) a c = .inr x := by
  show (match rI (f a) i a n 0 c with
    | .inl c' => rO f i n k (a + 1) c'
    | .inr x => .inr x) = _
  rw [h]
def SgX (n c : Nat) (s : Nat → Nat) (σ : jS) : Prop := c ≤ 8 ∧ g_i σ 77 1 = nI c ∧ ∀ k, k < c → g_i σ 78 k = nI (s k) ∧ s k < 2 ^ n
theorem near_x {W : Nat → Nat → Nat} {nb : Nat → Bool} {s : Nat → Nat} {n c d a b : Nat} {σ : jS} (hn : n ≤ 10) (hS : SOk W nb (fun _ _ => True) σ) (hg : SgX n c s σ) (hd : 1 ≤ d ∧ d ≤ 9) (ha : a < c) (hb : b < c) (hab : a ≠ b) : ∃ τ, f_X10_isTooNear nmX (nI a) (nI b) (nI d) σ = some (if NB W nb s d a b = true then 1 else 0, τ) ∧ ux wFs σ τ := by
  have hp := pow10 hn
  obtain ⟨g1, g2, g3⟩ := hg
  have at' : ∀ k, k < c → f_X4_at (jn nmX [77, 78]) 8 (nI k) σ = some (nI (s k)) := fun k hk => by
    rw [row_atI (n := c) (by exact g2) g1 (by omega) hk]
    exact congrArg some (g3 k hk).1
  unfold f_X10_isTooNear
  rw [at' a ha, bnd, at' b hb, bnd]
  obtain ⟨r, τ, e, u, hr⟩ := sounds_c (from' := s a) (to := s b) whX hS (by have := (g3 a ha).2; omega) (by have := (g3 b hb).2; omega)
  rw [e, bnd]
  refine ⟨τ, ?_, u⟩
  show (if r = -1 then some ((0 : Int32), τ) else if nI d ≤ r then some (0, τ) else some (1, τ)) = _
  rcases hr with ⟨s1, rfl⟩ | ⟨s1, v, hv, hl, rfl⟩
  · rw [if_pos rfl, NB_f (fun h => s1 h.2.1), if_neg (by decide)]
  · rcases hl with ⟨a1, a2, a3⟩ | ⟨a1, a2⟩
    · rw [if_pos a1, if_neg (fun e => by
        have e := congrArg Int32.toInt e
        rw [nI_ti (by omega)] at e
        have z : (-1 : Int32).toInt = -1 := by decide
        rw [z] at e; omega)]
      by_cases hvd : v < d
      · rw [if_neg (by rw [nI_le' (by omega) (by omega)]; omega), NB_t ⟨hab, s1, v, hvd, a2⟩, if_pos rfl]
      · rw [if_pos (by rw [nI_le' (by omega) (by omega)]; omega), NB_f (fun h => by
          obtain ⟨-, -, k, hk, hc⟩ := h
          exact a3 k (by omega) hc), if_neg (by decide)]
    · rw [show (if v < 100000 then nI v else (-1 : Int32)) = -1 from if_neg (by omega), if_pos rfl, NB_f (fun h => by
        obtain ⟨-, -, k, hk, hc⟩ := h
        exact a2 k hc), if_neg (by decide)]
theorem near_m {s : Nat → Nat} {n m d a b : Nat} {notes : Int64} {lo : Int32} {σ : jS} (hS : RSite n m σ) (hN : RNow n σ) (hlo : rg lo 1 50) (hd : 1 ≤ d ∧ d ≤ 9) (ha : s a < 2 ^ n) (hb : s b < 2 ^ n) (hab : a ≠ b) : ∃ r τ, f_X11_luredBy nmM (nI (s a)) (nI (s b)) notes lo σ = some (r, τ) ∧ ux wLu σ τ ∧ f_X11_in r.toInt64 0 (nI d - 1).toInt64 = some (if NB (Wt σ n lo) (bN notes.toBitVec) s d a b = true then 1 else 0) := by
  obtain ⟨r, τ, e, u, hr⟩ := lured_c (notes := notes) hS hN hlo ha hb
  refine ⟨r, τ, e, u, ?_⟩
  have hd1 : ((nI d - 1).toInt64).toInt = (d : Int) - 1 := by rw [ti64, nI_sub1 (by omega)]
  have z : (-1 : Int32).toInt = -1 := by decide
  have no : r = -1 → f_X11_in r.toInt64 0 (nI d - 1).toInt64 = some 0 := fun h => in_no (by
    rw [h, ti64, z]
    show ¬ ((0 : Int) ≤ -1 ∧ _)
    omega)
  rcases hr with ⟨s1, h⟩ | ⟨s1, v, hv, z1, z2, h⟩
  · rw [no h, NB_f (fun h => s1 h.2.1), if_neg (by decide)]
  · by_cases hvd : v < d
    · rcases z1 with ⟨b1, b2⟩ | b1
      · rw [if_pos b1] at h
        rw [h, NB_t ⟨hab, s1, v, hvd, b2⟩, if_pos rfl]
        exact in_yes (by rw [ti64, nI_ti (by omega)]; show (0 : Int) ≤ v; omega) (by rw [ti64, nI_ti (by omega), hd1]; omega)
      · omega
    · rw [NB_f (fun h => by
        obtain ⟨-, -, k, hk, hc⟩ := h
        have := z2 k hc
        omega), if_neg (by decide)]
      by_cases h6 : v < 1000000
      · rw [if_pos h6] at h
        rw [h]
        exact in_no (by rw [ti64, nI_ti (by omega), hd1]; show ¬ ((0 : Int) ≤ v ∧ (v : Int) ≤ d - 1); omega)
      · rw [if_neg h6] at h
        exact no h
