/-! round: the class's places, from the last to the first -/
abbrev nmT : Nat → Nat := jn nmX [91, 81, 82, 92, 93, 94, 95, 96, 97, 57, 31, 32, 33, 34, 35, 36, 37, 38, 39, 40, 41, 42, 43, 44, 45, 46, 47, 58, 59, 60, 61]
theorem toT : toNm (jn nmT [0, 1, 2, 3, 4, 5, 6, 7, 8]) := ⟨rfl, rfl, rfl, rfl, rfl, rfl, rfl, rfl⟩
theorem siT : siteNm (jn nmT [10, 11, 12, 13, 14, 15, 16, 17, 18, 19, 20, 21, 22, 23, 24, 25, 26]) := ⟨rfl, rfl, rfl⟩
def wTo (a _k : Nat) : Bool := decide (92 ≤ a ∧ a ≤ 95)
theorem places_c {W : Nat → Nat → Nat} {pl wd fl : Nat → Int} {fr lo : Int} {n L : Nat} {σ : jS} (hK : LOk σ n pl wd fl fr lo) (hW : WOk W pl lo n) (hL : L < 50) (hLl : ∀ l, l < n → pl l - (L : Int) < lo) (h5 : g_i σ 91 5 = nI L) (hw : ∀ p t, p < 50 → t < 64 → g_i σ 82 (64 * p + t) = nI (W p t)) : ∃ τ, lp (f_X8_find_L39 nmT) fu (nI L, σ) = some τ ∧ ux wTo σ τ ∧ ∀ q, q ≤ L → TP W pl lo n q 0 τ := by
  have hn := hK.1
  have hpw := pow10 hn
  have hlo : 1 ≤ lo := hK.2.2.2.2.2.2.2.1
  suffices wp (lp (f_X8_find_L39 nmT) fu (nI L, σ)) (fun τ => ux wTo σ τ ∧ ∀ q, q ≤ L → TP W pl lo n q 0 τ) by
    obtain ⟨τ, e, h⟩ := this
    exact ⟨τ, e, h⟩
  refine wp_lp (fun q s => q ≤ L + 1 ∧ s.1 = nI q - 1 ∧ ux wTo σ s.2 ∧ ∀ r, q ≤ r → r ≤ L → TP W pl lo n r 0 s.2) (n := L + 1) (by omega) ⟨Nat.le_refl _, (nI_p1m L).symm, ux_refl _ _, fun r h1 h2 => by omega⟩ ?_
  rintro q ⟨v, τ⟩ ⟨hq, hv, hu, hT⟩
  have hv : v = nI q - 1 := hv
  have hu : ux wTo σ τ := hu
  have hT : ∀ r, q ≤ r → r ≤ L → TP W pl lo n r 0 τ := hT
  subst hv
  unfold f_X8_find_L39
  show wp (if nI q - 1 < 0 then some (Sum.inr τ) else _) _
  cases q with
  | zero =>
    rw [if_pos neg1_lt]
    exact wp_some ⟨hu, fun q hq => hT q (Nat.zero_le _) hq⟩
  | succ p =>
    rw [nI_p1m, if_neg (nI_neg0 (by omega)), if_neg (show ¬ (50 : Int32) ≤ nI p from nle_lit (a := 50) (by omega) (by omega))]
    have hKτ : LOk τ n pl wd fl fr lo := LOk.cg hu (fun a k h1 h2 => decide_eq_false (by omega)) hK
    refine wp_bindE (behind_c siT hKτ (by omega)) (wp_gd (nI_in' (by omega) (by omega)) (wp_bd (fun s6 h6 => ?_)))
    have h6 : s6 = s_i τ 93 p (nI (bhS pl lo n p)) := by rw [h6, nI_cl (by omega)]; rfl
    have u6 : ux (fun a k => decide (a = 93 ∧ k = p)) τ s6 := by rw [h6]; exact ux_s (ux_refl _ _) (decide_eq_true ⟨rfl, rfl⟩)
    obtain ⟨s7, m, b, e7, u7, hm64, hr, hb1, hb2⟩ := larg_c (W := W) (p := p) (σ := s6) toT (by omega) (fun p' t h1 h2 => ⟨(u6 82 _ rfl).trans ((hu 82 _ rfl).trans (hw p' t h1 h2)), by have := hW.1 p' t; omega⟩)
    refine wp_bindE e7 ?_
    have u67 : ux wTo τ s7 := ux_tr (ux_w u6 (fun a k hk => decide_eq_false (fun e => (of_decide_eq_false hk) (by omega)))) (ux_w u7 (fun a k hk => decide_eq_false (fun e => (of_decide_eq_false hk) (by omega))))
    have hu7 : ux wTo σ s7 := ux_tr hu u67
    have hK7 : LOk s7 n pl wd fl fr lo := LOk.cg hu7 (fun a k h1 h2 => decide_eq_false (by omega)) hK
    refine wp_bindE (near_c siT hK7 (by omega)) ?_
    have eall : f_X6_allLamps (jn nmT [10, 11, 12, 13, 14, 15, 16, 17, 18, 19, 20, 21, 22, 23, 24, 25, 26]) s7 = some (nI (2 ^ n - 1)) := by
      show some (((1 : Int32) <<< (g_i s7 32 1 &&& 31)) - 1) = _
      rw [hK7.2.1, all_eq n hn]
    refine wp_bindE eall ?_
    have h93 : g_i s7 93 p = nI (bhS pl lo n p) := by
      rw [u7 93 p rfl, h6]; exact s_i_eq _ _ _ _
    have hTk : ∀ r, p + 1 ≤ r → r ≤ L → TP W pl lo n r 0 s7 := fun r h1 h2 => tp_cg u7 rfl (fun _ _ => rfl) (tp_cg u6 (decide_eq_false (by omega)) (fun _ _ => rfl) (hT r h1 h2))
    obtain ⟨s10, e10, u10, hT10⟩ := count_c (nm := jn nmT [0, 1, 2, 3, 4, 5, 6, 7, 8]) (W := W) (L := L) (p := p) (b := b) (σ := s7) hn hlo hW toT ((hu7 91 5 rfl).trans h5) hL hLl (by omega) h93 (fun h => hTk (p + 1) (Nat.le_refl _) (by omega)) hm64 hr hb1 hb2
    refine wp_bindE e10 (wp_some ⟨p, by omega, by omega, nI_a1 _, ux_tr hu7 (ux_w u10 (fun a k hk => decide_eq_false (fun e => (of_decide_eq_false hk) (by omega)))), fun r h1 h2 => ?_⟩)
    by_cases e : r = p
    · rw [e]; exact hT10
    · exact tp_cg u10 (decide_eq_false (by omega)) (fun S _ => decide_eq_false (by omega)) (hTk r (by omega) h2)
