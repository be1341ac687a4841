/-! ## 51 the tree of a node that was made -/
/-- a node's parts were made ahead of it -/
def ct_pp (i : Nat) (b : Prop) (p : Int32) : Prop := (b → ∃ j, j < i ∧ p = Int32.ofNat j) ∧ (¬ b → p = -1)
def ct_ve (N : List ct_E) (i : Nat) (e : ct_E) : Prop := (1 ≤ e.1.toInt ∧ e.1.toInt ≤ 14) ∧ ct_pp i (1 ≤ ct_ar e.1) e.2.2.2.2.1 ∧ ct_pp i (2 ≤ ct_ar e.1) e.2.2.2.2.2.1 ∧ ct_pp i (3 ≤ ct_ar e.1) e.2.2.2.2.2.2.1 ∧ ct_nw (e.1, e.2.1, e.2.2.1, e.2.2.2.1) ∧ ct_nu (e.1, e.2.1, e.2.2.1, e.2.2.2.1) ∧ (e.2.2.1 = -1 ∨ 0 ≤ e.2.2.1.toInt ∧ e.2.2.1.toInt < 26) ∧ (e.2.2.2.1 = -1 ∨ 0 ≤ e.2.2.2.1.toInt ∧ e.2.2.2.1.toInt < 26) ∧ ¬ e.1 = 8 ∧ e.2.2.2.2.2.2.2 = 1 + ct_w N e.2.2.2.2.1 + ct_w N e.2.2.2.2.2.1 + ct_w N e.2.2.2.2.2.2.1 ∧ e.2.2.2.2.2.2.2 ≤ 80
def ct_vs (N : List ct_E) : Prop := N.length ≤ 120 ∧ ∀ (i : Nat) (e : ct_E), N[i]? = some e → ct_ve N i e
/-- a scope with a name more -/
def ct_us (σ : Int32 → Int32) (x y : Int32) : Int32 → Int32 := fun z => if x = -1 then σ z else if z = x then y else σ z
/-- the tree of a node in a scope; what is bound at place p is 2 p (and 2 p + 1) -/
def ct_ex (N : List ct_E) : Nat → Int32 → (Int32 → Int32) → Nat → ct_T
  | 0, _, _, _ => .leaf
  | g + 1, i, σ, p => if i = -1 then .leaf else match N[i.toNatClampNeg]? with
    | none => .leaf
    | some e => if e.1 = 2 then ct_nd (e.1, e.2.1, σ e.2.2.1, -1) .leaf .leaf .leaf else
      ct_nd (e.1, e.2.1, (if e.2.2.1 = -1 then -1 else Int32.ofNat (2 * p)), (if e.2.2.2.1 = -1 then -1 else Int32.ofNat (2 * p + 1)))
        (ct_ex N g e.2.2.2.2.1 (if e.1 = 6 ∨ e.1 = 12 then σ else ct_us (ct_us σ e.2.2.1 (Int32.ofNat (2 * p))) e.2.2.2.1 (Int32.ofNat (2 * p + 1))) (p + 1))
        (ct_ex N g e.2.2.2.2.2.1 (if e.1 = 12 then σ else ct_us (ct_us σ e.2.2.1 (Int32.ofNat (2 * p))) e.2.2.2.1 (Int32.ofNat (2 * p + 1))) (p + 1 + ct_w N e.2.2.2.2.1))
        (ct_ex N g e.2.2.2.2.2.2.1 (ct_us (ct_us σ e.2.2.1 (Int32.ofNat (2 * p))) e.2.2.2.1 (Int32.ofNat (2 * p + 1))) (p + 1 + ct_w N e.2.2.2.2.1 + ct_w N e.2.2.2.2.2.1))
theorem ct_ex_m1 {N : List ct_E} {g : Nat} {σ : Int32 → Int32} {p : Nat} : ct_ex N g (-1) σ p = .leaf := by
  cases g with
  | zero => rfl
  | succ g => unfold ct_ex; rw [if_pos rfl]
theorem ct_ex_at {N : List ct_E} {g i : Nat} {σ : Int32 → Int32} {p : Nat} {e : ct_E} (hi : i < 2147483648) (he : N[i]? = some e) : ct_ex N (g + 1) (Int32.ofNat i) σ p = if e.1 = 2 then ct_nd (e.1, e.2.1, σ e.2.2.1, -1) .leaf .leaf .leaf else
      ct_nd (e.1, e.2.1, (if e.2.2.1 = -1 then -1 else Int32.ofNat (2 * p)), (if e.2.2.2.1 = -1 then -1 else Int32.ofNat (2 * p + 1)))
        (ct_ex N g e.2.2.2.2.1 (if e.1 = 6 ∨ e.1 = 12 then σ else ct_us (ct_us σ e.2.2.1 (Int32.ofNat (2 * p))) e.2.2.2.1 (Int32.ofNat (2 * p + 1))) (p + 1))
        (ct_ex N g e.2.2.2.2.2.1 (if e.1 = 12 then σ else ct_us (ct_us σ e.2.2.1 (Int32.ofNat (2 * p))) e.2.2.2.1 (Int32.ofNat (2 * p + 1))) (p + 1 + ct_w N e.2.2.2.2.1))
        (ct_ex N g e.2.2.2.2.2.2.1 (ct_us (ct_us σ e.2.2.1 (Int32.ofNat (2 * p))) e.2.2.2.1 (Int32.ofNat (2 * p + 1))) (p + 1 + ct_w N e.2.2.2.2.1 + ct_w N e.2.2.2.2.2.1)) := by
  show (if Int32.ofNat i = -1 then _ else match N[(Int32.ofNat i).toNatClampNeg]? with
    | none => _
    | some e => _) = _
  rw [if_neg (cp_m1 hi), cp_cl hi, he]
/-- a part's index, or none -/
def ct_px (g : Nat) (p : Int32) : Prop := p = -1 ∨ ∃ j, j < g ∧ p = Int32.ofNat j
theorem ct_pp_px {i g : Nat} {b : Prop} {p : Int32} (h : ct_pp i b p) (hi : i ≤ g) : ct_px g p := by
  by_cases hb : b
  · obtain ⟨j, h1, h2⟩ := h.1 hb
    exact Or.inr ⟨j, by omega, h2⟩
  · exact Or.inl (h.2 hb)
/-- by the order in which nodes were made -/
theorem ct_ex_ind {N : List ct_E} (hN : ct_vs N) {P : Int32 → (Int32 → Int32) → Nat → ct_T → Prop} (h0 : ∀ σ p, P (-1) σ p .leaf)
    (h2 : ∀ (i : Nat) (e : ct_E) σ p, N[i]? = some e → ct_ve N i e → e.1 = 2 → P (Int32.ofNat i) σ p (ct_nd (e.1, e.2.1, σ e.2.2.1, -1) .leaf .leaf .leaf))
    (h1 : ∀ (i : Nat) (e : ct_E) σ p a b c, N[i]? = some e → ct_ve N i e → ¬ e.1 = 2 → P e.2.2.2.2.1 (if e.1 = 6 ∨ e.1 = 12 then σ else ct_us (ct_us σ e.2.2.1 (Int32.ofNat (2 * p))) e.2.2.2.1 (Int32.ofNat (2 * p + 1))) (p + 1) a → P e.2.2.2.2.2.1 (if e.1 = 12 then σ else ct_us (ct_us σ e.2.2.1 (Int32.ofNat (2 * p))) e.2.2.2.1 (Int32.ofNat (2 * p + 1))) (p + 1 + ct_w N e.2.2.2.2.1) b → P e.2.2.2.2.2.2.1 (ct_us (ct_us σ e.2.2.1 (Int32.ofNat (2 * p))) e.2.2.2.1 (Int32.ofNat (2 * p + 1))) (p + 1 + ct_w N e.2.2.2.2.1 + ct_w N e.2.2.2.2.2.1) c →
      (e.2.2.2.2.1 = -1 ↔ a = .leaf) → (e.2.2.2.2.2.1 = -1 ↔ b = .leaf) → (e.2.2.2.2.2.2.1 = -1 ↔ c = .leaf) →
      P (Int32.ofNat i) σ p (ct_nd (e.1, e.2.1, (if e.2.2.1 = -1 then -1 else Int32.ofNat (2 * p)), (if e.2.2.2.1 = -1 then -1 else Int32.ofNat (2 * p + 1))) a b c)) :
    ∀ (g : Nat) (i : Int32) σ p, ct_px g i → g ≤ N.length → P i σ p (ct_ex N g i σ p) ∧ (i = -1 ↔ ct_ex N g i σ p = .leaf)
  | 0, i, σ, p, hi, _ => by
    rcases hi with rfl | ⟨j, h, _⟩
    · exact ⟨h0 σ p, ⟨fun _ => rfl, fun _ => rfl⟩⟩
    · omega
  | g + 1, i, σ, p, hi, hg => by
    have hl := hN.1
    rcases hi with rfl | ⟨j, hj, rfl⟩
    · rw [ct_ex_m1]; exact ⟨h0 σ p, ⟨fun _ => rfl, fun _ => rfl⟩⟩
    · have he := List.getElem?_eq_getElem (show j < N.length by omega)
      generalize N[j] = e at he
      have hv := hN.2 j e he
      obtain ⟨v1, v2, v3, v4, _⟩ := id hv
      rw [ct_ex_at (by omega) he]
      by_cases hk : e.1 = 2
      · rw [if_pos hk]
        exact ⟨h2 j e σ p he hv hk, ⟨fun h => absurd h (cp_m1 (by omega)), fun h => (by cases h)⟩⟩
      · rw [if_neg hk]
        obtain ⟨a1, a2⟩ := ct_ex_ind hN h0 h2 h1 g e.2.2.2.2.1 (if e.1 = 6 ∨ e.1 = 12 then σ else ct_us (ct_us σ e.2.2.1 (Int32.ofNat (2 * p))) e.2.2.2.1 (Int32.ofNat (2 * p + 1))) (p + 1) (ct_pp_px v2 (by omega)) (by omega)
        obtain ⟨b1, b2⟩ := ct_ex_ind hN h0 h2 h1 g e.2.2.2.2.2.1 (if e.1 = 12 then σ else ct_us (ct_us σ e.2.2.1 (Int32.ofNat (2 * p))) e.2.2.2.1 (Int32.ofNat (2 * p + 1))) (p + 1 + ct_w N e.2.2.2.2.1) (ct_pp_px v3 (by omega)) (by omega)
        obtain ⟨c1, c2⟩ := ct_ex_ind hN h0 h2 h1 g e.2.2.2.2.2.2.1 (ct_us (ct_us σ e.2.2.1 (Int32.ofNat (2 * p))) e.2.2.2.1 (Int32.ofNat (2 * p + 1))) (p + 1 + ct_w N e.2.2.2.2.1 + ct_w N e.2.2.2.2.2.1) (ct_pp_px v4 (by omega)) (by omega)
        exact ⟨h1 j e σ p _ _ _ he hv hk a1 b1 c1 a2 b2 c2, ⟨fun h => absurd h (cp_m1 (by omega)), fun h => (by cases h)⟩⟩
theorem ct_w_at {N : List ct_E} {i : Nat} {e : ct_E} (hi : i < 2147483648) (he : N[i]? = some e) : ct_w N (Int32.ofNat i) = e.2.2.2.2.2.2.2 := by
  unfold ct_w
  rw [if_neg (cp_m1 hi), cp_cl hi, he]
theorem ct_w_m1 {N : List ct_E} : ct_w N (-1) = 0 := if_pos rfl
theorem ct_pp_m1 {i : Nat} {b : Prop} {p : Int32} (h : ct_pp i b p) (hi : i < 2147483648) : p = -1 ↔ ¬ b := by
  constructor
  · intro hp hb
    obtain ⟨j, h1, h2⟩ := h.1 hb
    rw [hp] at h2
    exact cp_m1 (show j < 2147483648 by omega) h2.symm
  · exact h.2
/-- every variable is bound -/
def ct_fx (t : ct_T) : Prop := ∀ e, e ∈ ct_fl t → e.1 = 2 → ¬ e.2.2.1 = -1
/-- what holds of the tree of a node -/
def ct_xp (N : List ct_E) (i : Int32) (σ : Int32 → Int32) (p : Nat) (t : ct_T) : Prop := ct_sz t = ct_w N i ∧ ct_wf t ∧ ct_nus t ∧ (∀ y, y ∈ ct_bl (ct_fl t) → ∃ q, p ≤ q ∧ q < p + ct_sz t ∧ (y = Int32.ofNat (2 * q) ∨ y = Int32.ofNat (2 * q + 1))) ∧ (p + ct_sz t ≤ 100000 → (ct_bl (ct_fl t)).Nodup) ∧ (p + ct_sz t ≤ 10000 → (∀ v, ct_nb1 (σ v)) → ct_nb t) ∧ (p + ct_sz t ≤ 10000 → ct_fx t → ct_nws t) ∧ ∀ G : ct_G, (∀ v, ¬ σ v = -1 → G (σ v)) → ct_fx t → ct_lx G t
