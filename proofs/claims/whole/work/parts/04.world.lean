/-! the store: every int (and boolean) field and element by address and slot; every long field; the world: what cells there are -/
abbrev jS : Type := (Nat → Nat → Int32) × (Nat → Nat → Int64)
def g_i (σ : jS) (a k : Nat) : Int32 := σ.1 a k
def g_l (σ : jS) (a k : Nat) : Int64 := σ.2 a k
def s_i (σ : jS) (a k : Nat) (v : Int32) : jS := (fun b j => if b = a ∧ j = k then v else σ.1 b j, σ.2)
def s_l (σ : jS) (a k : Nat) (v : Int64) : jS := (σ.1, fun b j => if b = a ∧ j = k then v else σ.2 b j)
/-- a cell's shape: an array (0 of int, else of boolean; its length), or an object (its number in vwCl; its slots: a cell, or 0 an int, 1 a long, else null) -/
abbrev jSh : Type := (Nat × Nat) ⊕ (Nat × List (Nat ⊕ Nat))
/-- classes' ids and slots; int[] and boolean[]; the cells by number; the first address of the world; String constants and their bytes; the cells' addresses -/
abbrev jG : Type := va_G × ClassId × ClassId × List (Nat × jSh) × Nat × (Nat → Nat) × (Nat → Nat) × (Nat → Nat)
def jad (G : jG) (n : Nat) : Nat := G.2.2.2.2.2.2.2 n
def jw_v (ad : Nat → Nat) (σ : jS) (a k : Nat) (t : Nat ⊕ Nat) : Value := match t with
  | .inl b => .ref (ad b)
  | .inr 0 => .int (g_i σ a k)
  | .inr 1 => .long (g_l σ a k)
  | .inr _ => .null
def jw_fs (ad : Nat → Nat) (σ : jS) (a : Nat) : Nat → List (Nat ⊕ Nat) → List Value
  | _, [] => []
  | k, t :: r => jw_v ad σ a k t :: jw_fs ad σ a (k + 1) r
def jw_e (ad : Nat → Nat) (cI cZ : ClassId) (σ : jS) (q : Nat × jSh) : Nat × va_E := (ad q.1, match q.2 with
  | .inl (0, n) => .inl (cI, n, .inl (g_i σ q.1))
  | .inl (_, n) => .inl (cZ, n, .inl (g_i σ q.1))
  | .inr (ci, sl) => .inr (ci, jw_fs ad σ q.1 0 sl))
def jw_ws (G : jG) (σ : jS) : va_W := G.2.2.2.1.map (jw_e (jad G) G.2.1 G.2.2.1 σ)
def jA (G : jG) : Nat → Prop := fun q => G.2.2.2.2.1 ≤ q
def jWL (G : jG) : Prop := (∀ (i j : Nat) (p q : Nat × jSh), G.2.2.2.1[i]? = some p → G.2.2.2.1[j]? = some q → jad G p.1 = jad G q.1 → i = j) ∧ ∀ (i : Nat) (p : Nat × jSh), G.2.2.2.1[i]? = some p → jA G (jad G p.1)
theorem g_i_s (σ : jS) (a k b j : Nat) (v : Int32) : g_i (s_i σ a k v) b j = if b = a ∧ j = k then v else g_i σ b j := rfl
theorem g_i_sl (σ : jS) (a k b j : Nat) (v : Int64) : g_i (s_l σ a k v) b j = g_i σ b j := rfl
theorem g_l_s (σ : jS) (a k b j : Nat) (v : Int64) : g_l (s_l σ a k v) b j = if b = a ∧ j = k then v else g_l σ b j := rfl
theorem g_l_si (σ : jS) (a k b j : Nat) (v : Int32) : g_l (s_i σ a k v) b j = g_l σ b j := rfl
theorem jw_fs_at (ad : Nat → Nat) (σ : jS) (a : Nat) : ∀ (sl : List (Nat ⊕ Nat)) (n j : Nat), (jw_fs ad σ a n sl)[j]? = (sl[j]?).map (jw_v ad σ a (n + j))
  | [], n, j => by simp [jw_fs]
  | t :: r, n, 0 => by simp [jw_fs]
  | t :: r, n, j + 1 => by
    rw [jw_fs, List.getElem?_cons_succ, List.getElem?_cons_succ, jw_fs_at ad σ a r (n + 1) j]
    rw [show n + 1 + j = n + (j + 1) by omega]
theorem jw_fs_len (ad : Nat → Nat) (σ : jS) (a : Nat) : ∀ (sl : List (Nat ⊕ Nat)) (n : Nat), (jw_fs ad σ a n sl).length = sl.length
  | [], n => rfl
  | t :: r, n => by rw [jw_fs, List.length_cons, List.length_cons, jw_fs_len ad σ a r (n + 1)]
theorem jw_v_ne {ad : Nat → Nat} {σ : jS} {a b j k : Nat} {v : Int32} (t : Nat ⊕ Nat) (h : ¬ (b = a ∧ k = j)) : jw_v ad (s_i σ a j v) b k t = jw_v ad σ b k t := by
  rcases t with c | c
  · rfl
  · match c with
    | 0 => simp [jw_v, g_i_s, h]
    | 1 => rfl
    | n + 2 => rfl
theorem jw_v_nel {ad : Nat → Nat} {σ : jS} {a b j k : Nat} {v : Int64} (t : Nat ⊕ Nat) (h : ¬ (b = a ∧ k = j)) : jw_v ad (s_l σ a j v) b k t = jw_v ad σ b k t := by
  rcases t with c | c
  · rfl
  · match c with
    | 0 => rfl
    | 1 => simp [jw_v, g_l_s, h]
    | n + 2 => rfl
theorem jw_fs_eq {ad : Nat → Nat} {σ τ : jS} {a : Nat} {sl : List (Nat ⊕ Nat)} (h : ∀ (k : Nat) (t : Nat ⊕ Nat), sl[k]? = some t → jw_v ad σ a k t = jw_v ad τ a k t) : jw_fs ad σ a 0 sl = jw_fs ad τ a 0 sl := by
  apply List.ext_getElem?
  intro k
  rw [jw_fs_at, jw_fs_at]
  cases hk : sl[k]? with
  | none => rfl
  | some t => simp only [Option.map_some, Nat.zero_add]; rw [h k t hk]
theorem jw_e_ne {ad : Nat → Nat} {cI cZ : ClassId} {σ : jS} {a j : Nat} {v : Int32} {q : Nat × jSh} (h : q.1 ≠ a) : jw_e ad cI cZ (s_i σ a j v) q = jw_e ad cI cZ σ q := by
  have hg : g_i (s_i σ a j v) q.1 = g_i σ q.1 := by funext k; simp [g_i_s, h]
  obtain ⟨b, c⟩ := q
  rcases c with ⟨n, k⟩ | ⟨ci, sl⟩
  · match n with
    | 0 => simp only [jw_e]; rw [hg]
    | n + 1 => simp only [jw_e]; rw [hg]
  · simp only [jw_e]
    rw [jw_fs_eq (fun k t _ => jw_v_ne t (fun z => h z.1))]
theorem jw_e_nel {ad : Nat → Nat} {cI cZ : ClassId} {σ : jS} {a j : Nat} {v : Int64} {q : Nat × jSh} (h : q.1 ≠ a) : jw_e ad cI cZ (s_l σ a j v) q = jw_e ad cI cZ σ q := by
  obtain ⟨b, c⟩ := q
  rcases c with ⟨n, k⟩ | ⟨ci, sl⟩
  · match n with
    | 0 => rfl
    | n + 1 => rfl
  · simp only [jw_e]
    rw [jw_fs_eq (fun k t _ => jw_v_nel t (fun z => h z.1))]
theorem jw_ws_at {G : jG} (σ : jS) {i : Nat} {q : Nat × jSh} (h : G.2.2.2.1[i]? = some q) : (jw_ws G σ)[i]? = some (jw_e (jad G) G.2.1 G.2.2.1 σ q) := by
  rw [jw_ws, List.getElem?_map, h]; rfl
/-- one cell changes, the others stay -/
theorem jw_set {G : jG} {σ τ : jS} {i : Nat} {q : Nat × jSh} (hW : jWL G) (hi : G.2.2.2.1[i]? = some q) (e : Nat × va_E) (h1 : jw_e (jad G) G.2.1 G.2.2.1 τ q = e) (h2 : ∀ p : Nat × jSh, p.1 ≠ q.1 → jw_e (jad G) G.2.1 G.2.2.1 τ p = jw_e (jad G) G.2.1 G.2.2.1 σ p) : (jw_ws G σ).set i e = jw_ws G τ := by
  apply List.ext_getElem?
  intro k
  by_cases hk : k = i
  · subst hk
    have hl : k < (jw_ws G σ).length := (List.getElem?_eq_some_iff.mp (jw_ws_at σ hi)).1
    rw [List.getElem?_set_self hl, jw_ws_at τ hi, h1]
  · rw [List.getElem?_set_ne (Ne.symm hk)]
    unfold jw_ws
    rw [List.getElem?_map, List.getElem?_map]
    cases hp : G.2.2.2.1[k]? with
    | none => rfl
    | some p =>
      simp only [Option.map_some]
      rw [h2 p (fun z => hk (hW.1 k i p q hp hi (congrArg (jad G) z)))]
theorem jw_puti {G : jG} {σ : jS} {i a ci j : Nat} {sl : List (Nat ⊕ Nat)} {v : Int32} (hW : jWL G) (hi : G.2.2.2.1[i]? = some (a, .inr (ci, sl))) (hj : sl[j]? = some (.inr 0)) : (jw_ws G σ).set i (jad G a, .inr (ci, (jw_fs (jad G) σ a 0 sl).set j (.int v))) = jw_ws G (s_i σ a j v) := by
  refine jw_set hW hi _ ?_ (fun p hp => jw_e_ne hp)
  show (jad G a, Sum.inr (ci, jw_fs (jad G) (s_i σ a j v) a 0 sl)) = (jad G a, Sum.inr (ci, (jw_fs (jad G) σ a 0 sl).set j (.int v)))
  have hs : jw_fs (jad G) (s_i σ a j v) a 0 sl = (jw_fs (jad G) σ a 0 sl).set j (.int v) := by
    apply List.ext_getElem?
    intro k
    by_cases hk : k = j
    · subst hk
      have hl : k < (jw_fs (jad G) σ a 0 sl).length := by rw [jw_fs_len]; exact (List.getElem?_eq_some_iff.mp hj).1
      rw [List.getElem?_set_self hl, jw_fs_at, hj]
      simp [jw_v, g_i_s]
    · rw [List.getElem?_set_ne (Ne.symm hk), jw_fs_at, jw_fs_at]
      cases ht : sl[k]? with
      | none => rfl
      | some t => simp only [Option.map_some, Nat.zero_add]; rw [jw_v_ne t (fun z => hk z.2)]
  rw [hs]
theorem jw_putl {G : jG} {σ : jS} {i a ci j : Nat} {sl : List (Nat ⊕ Nat)} {v : Int64} (hW : jWL G) (hi : G.2.2.2.1[i]? = some (a, .inr (ci, sl))) (hj : sl[j]? = some (.inr 1)) : (jw_ws G σ).set i (jad G a, .inr (ci, (jw_fs (jad G) σ a 0 sl).set j (.long v))) = jw_ws G (s_l σ a j v) := by
  refine jw_set hW hi _ ?_ (fun p hp => jw_e_nel hp)
  show (jad G a, Sum.inr (ci, jw_fs (jad G) (s_l σ a j v) a 0 sl)) = (jad G a, Sum.inr (ci, (jw_fs (jad G) σ a 0 sl).set j (.long v)))
  have hs : jw_fs (jad G) (s_l σ a j v) a 0 sl = (jw_fs (jad G) σ a 0 sl).set j (.long v) := by
    apply List.ext_getElem?
    intro k
    by_cases hk : k = j
    · subst hk
      have hl : k < (jw_fs (jad G) σ a 0 sl).length := by rw [jw_fs_len]; exact (List.getElem?_eq_some_iff.mp hj).1
      rw [List.getElem?_set_self hl, jw_fs_at, hj]
      simp [jw_v, g_l_s]
    · rw [List.getElem?_set_ne (Ne.symm hk), jw_fs_at, jw_fs_at]
      cases ht : sl[k]? with
      | none => rfl
      | some t => simp only [Option.map_some, Nat.zero_add]; rw [jw_v_nel t (fun z => hk z.2)]
  rw [hs]
theorem jw_upd (σ : jS) (a k : Nat) (v : Int32) : upd (g_i σ a) k v = g_i (s_i σ a k v) a := by
  funext j; simp [upd, g_i_s]
theorem jw_asti {G : jG} {σ : jS} {i a n k : Nat} {v : Int32} (hW : jWL G) (hi : G.2.2.2.1[i]? = some (a, .inl (0, n))) : (jw_ws G σ).set i (jad G a, .inl (G.2.1, n, .inl (upd (g_i σ a) k v))) = jw_ws G (s_i σ a k v) := by
  refine jw_set hW hi _ ?_ (fun p hp => jw_e_ne hp)
  rw [jw_upd]; rfl
theorem jw_astz {G : jG} {σ : jS} {i a n k : Nat} {v : Int32} (hW : jWL G) (hi : G.2.2.2.1[i]? = some (a, .inl (1, n))) : (jw_ws G σ).set i (jad G a, .inl (G.2.2.1, n, .inl (upd (g_i σ a) k v))) = jw_ws G (s_i σ a k v) := by
  refine jw_set hW hi _ ?_ (fun p hp => jw_e_ne hp)
  rw [jw_upd]; rfl
theorem jw_D {G : jG} (hW : jWL G) (σ : jS) : va_D (jA G) (jw_ws G σ) := by
  have key : ∀ (i : Nat) (p : Nat × va_E), (jw_ws G σ)[i]? = some p → ∃ q, G.2.2.2.1[i]? = some q ∧ jad G q.1 = p.1 := by
    intro i p h
    rw [jw_ws, List.getElem?_map] at h
    cases hq : G.2.2.2.1[i]? with
    | none => rw [hq] at h; cases h
    | some q => rw [hq] at h; cases h; exact ⟨q, rfl, rfl⟩
  refine ⟨fun i j p q hp hq e => ?_, fun k q hq => ?_⟩
  · obtain ⟨p', a1, a2⟩ := key i p hp
    obtain ⟨q', b1, b2⟩ := key j q hq
    exact hW.1 i j p' q' a1 b1 (a2.trans (e.trans b2.symm))
  · obtain ⟨q', b1, b2⟩ := key k q hq
    rw [← b2]; exact hW.2 k q' b1
/-! local names of cells -/
def jw_rt (nm : Nat → Nat) (t : Nat ⊕ Nat) : Nat ⊕ Nat := match t with
  | .inl b => .inl (nm b)
  | .inr k => .inr k
def jw_ren (nm : Nat → Nat) (c : jSh) : jSh := match c with
  | .inl x => .inl x
  | .inr (ci, sl) => .inr (ci, sl.map (jw_rt nm))
/-- the cells that LS lists, by their local names 0, 1, .., stand in the world at nm 0, nm 1, .. -/
def jE (G : jG) (nm : Nat → Nat) (LS : List jSh) : Prop := ∀ (k : Nat) (c : jSh), LS[k]? = some c → ∃ i : Nat, G.2.2.2.1[i]? = some (nm k, jw_ren nm c)
def jE_ok (LS : List jSh) (ks : List Nat) (LS' : List jSh) : Bool := (List.range LS'.length).all (fun k => decide (LS[ks.getD k 0]? = (LS'[k]?).map (jw_ren (fun j => ks.getD j 0))))
theorem jw_rt_rt (f g : Nat → Nat) (t : Nat ⊕ Nat) : jw_rt f (jw_rt g t) = jw_rt (fun k => f (g k)) t := by
  rcases t with b | k <;> rfl
theorem jw_ren_ren (f g : Nat → Nat) (c : jSh) : jw_ren f (jw_ren g c) = jw_ren (fun k => f (g k)) c := by
  rcases c with x | ⟨ci, sl⟩
  · rfl
  · simp only [jw_ren, List.map_map]
    have : (jw_rt f ∘ jw_rt g) = jw_rt (fun k => f (g k)) := by funext t; exact jw_rt_rt f g t
    rw [this]
theorem jE.sub {G : jG} {nm : Nat → Nat} {LS LS' : List jSh} (h : jE G nm LS) (ks : List Nat) (hc : jE_ok LS ks LS' = true) : jE G (fun k => nm (ks.getD k 0)) LS' := by
  intro k c hk
  have hl : k < LS'.length := (List.getElem?_eq_some_iff.mp hk).1
  have h1 := List.all_eq_true.mp hc k (List.mem_range.mpr hl)
  have h2 := of_decide_eq_true h1
  rw [hk] at h2
  obtain ⟨i, hi⟩ := h _ _ h2
  refine ⟨i, ?_⟩
  rw [hi, jw_ren_ren]
