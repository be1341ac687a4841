/-! ## 36 the order in which variables are bound -/
def ct_ix (x : Int32) : List Int32 → Nat
  | [] => 0
  | y :: l => if y = x then 0 else 1 + ct_ix x l
theorem ct_ix_in {x : Int32} {l2 : List Int32} : ∀ {l : List Int32}, x ∈ l → ct_ix x (l ++ l2) = ct_ix x l
  | [], h => by cases h
  | y :: l, h => by
    show (if y = x then 0 else 1 + ct_ix x (l ++ l2)) = if y = x then 0 else 1 + ct_ix x l
    by_cases hy : y = x
    · rw [if_pos hy, if_pos hy]
    · rw [if_neg hy, if_neg hy, ct_ix_in (by rcases List.mem_cons.mp h with h | h; exact absurd h.symm hy; exact h)]
theorem ct_ix_no {x : Int32} {l2 : List Int32} : ∀ {l : List Int32}, ¬ x ∈ l → ct_ix x (l ++ l2) = l.length + ct_ix x l2
  | [], h => by rw [List.nil_append, List.length_nil, Nat.zero_add]
  | y :: l, h => by
    rw [List.mem_cons, not_or] at h
    show (if y = x then 0 else 1 + ct_ix x (l ++ l2)) = (l.length + 1) + ct_ix x l2
    rw [if_neg (fun hc => h.1 hc.symm), ct_ix_no h.2]; omega
theorem ct_ix_lt {x : Int32} : ∀ {l : List Int32}, x ∈ l → ct_ix x l < l.length
  | [], h => by cases h
  | y :: l, h => by
    show (if y = x then 0 else 1 + ct_ix x l) < l.length + 1
    by_cases hy : y = x
    · rw [if_pos hy]; omega
    · rw [if_neg hy]
      have := ct_ix_lt (l := l) (by rcases List.mem_cons.mp h with h | h; exact absurd h.symm hy; exact h)
      omega
theorem ct_ix_inj {x y : Int32} : ∀ {l : List Int32}, x ∈ l → y ∈ l → ct_ix x l = ct_ix y l → x = y
  | [], h, _, _ => by cases h
  | z :: l, hx, hy, h => by
    have h : (if z = x then 0 else 1 + ct_ix x l) = (if z = y then 0 else 1 + ct_ix y l) := h
    by_cases h1 : z = x
    · by_cases h2 : z = y
      · exact h1.symm.trans h2
      · rw [if_pos h1, if_neg h2] at h; omega
    · by_cases h2 : z = y
      · rw [if_neg h1, if_pos h2] at h; omega
      · rw [if_neg h1, if_neg h2] at h
        exact ct_ix_inj (by rcases List.mem_cons.mp hx with h | h; exact absurd h.symm h1; exact h) (by rcases List.mem_cons.mp hy with h | h; exact absurd h.symm h2; exact h) (by omega)
/-- the names that a node of its kind has -/
def ct_nw (e : ct_D) : Prop := (e.1 = 2 ∨ e.1 = 4 ∨ e.1 = 6 ∨ e.1 = 7 ∨ e.1 = 8 → ¬ e.2.2.1 = -1 ∧ e.2.2.2 = -1) ∧ (e.1 = 12 → ¬ e.2.2.1 = -1 ∧ ¬ e.2.2.2 = -1 ∧ ¬ e.2.2.1 = e.2.2.2) ∧ (¬ (e.1 = 2 ∨ e.1 = 4 ∨ e.1 = 6 ∨ e.1 = 7 ∨ e.1 = 8 ∨ e.1 = 12) → e.2.2.1 = -1 ∧ e.2.2.2 = -1)
def ct_nws (t : ct_T) : Prop := ∀ e, e ∈ ct_fl t → ct_nw e
theorem ct_nws_nd {e : ct_D} {a b c : ct_T} (h : ct_nws (ct_nd e a b c)) : ct_nw e ∧ ct_nws a ∧ ct_nws b ∧ ct_nws c := by
  unfold ct_nws at h
  rw [ct_fl_nd] at h
  exact ⟨h e List.mem_cons_self, fun x hx => h x (List.mem_cons_of_mem _ (List.mem_append_left _ hx)), fun x hx => h x (List.mem_cons_of_mem _ (List.mem_append_right _ (List.mem_append_left _ hx))), fun x hx => h x (List.mem_cons_of_mem _ (List.mem_append_right _ (List.mem_append_right _ hx)))⟩
/-- the variables that a tree binds, in the order of the print -/
def ct_bo : ct_T → List Int32
  | .inner _ e _ a (.inner _ _ _ b c) => if e.1 = 4 ∨ e.1 = 7 then e.2.2.1 :: (ct_bo a ++ (ct_bo b ++ ct_bo c)) else if e.1 = 6 ∨ e.1 = 8 then ct_bo a ++ (e.2.2.1 :: (ct_bo b ++ ct_bo c)) else if e.1 = 12 then ct_bo a ++ (ct_bo b ++ (e.2.2.1 :: e.2.2.2 :: ct_bo c)) else ct_bo a ++ (ct_bo b ++ ct_bo c)
  | _ => []
theorem ct_bo_nd {e : ct_D} {a b c : ct_T} : ct_bo (ct_nd e a b c) = if e.1 = 4 ∨ e.1 = 7 then e.2.2.1 :: (ct_bo a ++ (ct_bo b ++ ct_bo c)) else if e.1 = 6 ∨ e.1 = 8 then ct_bo a ++ (e.2.2.1 :: (ct_bo b ++ ct_bo c)) else if e.1 = 12 then ct_bo a ++ (ct_bo b ++ (e.2.2.1 :: e.2.2.2 :: ct_bo c)) else ct_bo a ++ (ct_bo b ++ ct_bo c) := rfl
/-- the moment at which a node of a tree at place r binds -/
def ct_mo (r : Nat) (e : ct_D) (a b : ct_T) : Nat := if e.1 = 6 ∨ e.1 = 8 then 2 * (r + 1 + ct_sz a) else if e.1 = 12 then 2 * (r + 1 + ct_sz a + ct_sz b) else 2 * r + 1
def ct_mm : Nat → ct_T → List Nat
  | r, .inner _ e _ a (.inner _ _ _ b c) => ct_mo r e a b :: (ct_mm (r + 1) a ++ (ct_mm (r + 1 + ct_sz a) b ++ ct_mm (r + 1 + ct_sz a + ct_sz b) c))
  | _, _ => []
theorem ct_mm_nd {r : Nat} {e : ct_D} {a b c : ct_T} : ct_mm r (ct_nd e a b c) = ct_mo r e a b :: (ct_mm (r + 1) a ++ (ct_mm (r + 1 + ct_sz a) b ++ ct_mm (r + 1 + ct_sz a + ct_sz b) c)) := rfl
theorem ct_mm_len : ∀ (t : ct_T) (r : Nat), (ct_mm r t).length = ct_sz t
  | .leaf, r => rfl
  | .inner _ _ _ _ .leaf, r => rfl
  | .inner _ e _ a (.inner _ _ _ b c), r => by
    show (ct_mo r e a b :: (ct_mm (r + 1) a ++ (ct_mm (r + 1 + ct_sz a) b ++ ct_mm (r + 1 + ct_sz a + ct_sz b) c))).length = 1 + (ct_sz a + (ct_sz b + ct_sz c))
    rw [List.length_cons, List.length_append, List.length_append, ct_mm_len a, ct_mm_len b, ct_mm_len c]
    omega
theorem ct_sz_ne {t : ct_T} (hw : ct_wf t) (hn : ¬ t = .leaf) : 0 < ct_sz t := by
  revert hn
  exact ct_ind (P := fun t => ¬ t = .leaf → 0 < ct_sz t) (fun h => absurd rfl h) (fun e a b c _ _ _ _ _ => ct_sz_pos) t hw
theorem ct_ar_2 {k : Int32} (h : k = 6 ∨ k = 8) : ct_ar k = 2 := by rcases h with rfl | rfl <;> decide +kernel
theorem ct_ar_3 {k : Int32} (h : k = 12) : ct_ar k = 3 := by subst h; decide +kernel
theorem ct_mo_b {r : Nat} {e : ct_D} {a b c : ct_T} (hw : ct_wf (ct_nd e a b c)) : 2 * r + 1 ≤ ct_mo r e a b ∧ ct_mo r e a b < 2 * (r + ct_sz (ct_nd e a b c)) ∧ ((e.1 = 6 ∨ e.1 = 8) → 0 < ct_sz b) ∧ (e.1 = 12 → 0 < ct_sz c) := by
  obtain ⟨h1, h2, h3, h4, h5, h6, h7⟩ := ct_wf_nd hw
  have hb : (e.1 = 6 ∨ e.1 = 8) → 0 < ct_sz b := fun h => ct_sz_ne h6 (fun hc => by rw [h3, ct_ar_2 h] at hc; omega)
  have hc : e.1 = 12 → 0 < ct_sz c := fun h => ct_sz_ne h7 (fun hc => by rw [h4, ct_ar_3 h] at hc; omega)
  rw [ct_sz_nd]
  unfold ct_mo
  refine ⟨?_, ?_, hb, hc⟩
  · split
    · omega
    · split <;> omega
  · split
    · next h => have := hb h; omega
    · split
      · next h => have := hc h; omega
      · omega
theorem ct_mm_b : ∀ t, ct_wf t → ∀ (r n : Nat), n ∈ ct_mm r t → 2 * r + 1 ≤ n ∧ n < 2 * (r + ct_sz t) :=
  ct_ind (fun r n h => by cases h) (fun e a b c hw iha ihb ihc r n h => by
    rw [ct_mm_nd, List.mem_cons, List.mem_append, List.mem_append] at h
    have h2 := ct_mo_b (r := r) hw
    rw [ct_sz_nd] at *
    rcases h with rfl | h | h | h
    · exact ⟨h2.1, h2.2.1⟩
    · have := iha _ _ h; omega
    · have := ihb _ _ h; omega
    · have := ihc _ _ h; omega)
def ct_ib (e : ct_D) : Bool := decide (¬ e.2.2.1 = -1 ∧ ¬ e.1 = 2)
def ct_wt (e : ct_D) : Nat := if e.1 = 12 then 2 else 1
/-- how many variables are bound ahead of a moment -/
def ct_cb (m : Nat) : List ct_D → List Nat → Nat
  | e :: l, n :: ns => (if ct_ib e = true ∧ n < m then ct_wt e else 0) + ct_cb m l ns
  | _, _ => 0
theorem ct_cb_app {m : Nat} {l2 : List ct_D} {n2 : List Nat} : ∀ {l : List ct_D} {n : List Nat}, l.length = n.length → ct_cb m (l ++ l2) (n ++ n2) = ct_cb m l n + ct_cb m l2 n2
  | [], [], _ => by show ct_cb m l2 n2 = 0 + ct_cb m l2 n2; omega
  | [], _ :: _, h => by simp at h
  | _ :: _, [], h => by simp at h
  | e :: l, k :: n, h => by
    show (if ct_ib e = true ∧ k < m then ct_wt e else 0) + ct_cb m (l ++ l2) (n ++ n2) = (if ct_ib e = true ∧ k < m then ct_wt e else 0) + ct_cb m l n + ct_cb m l2 n2
    rw [ct_cb_app (by simpa using h)]; omega
theorem ct_cb_lo {m : Nat} : ∀ {l : List ct_D} {n : List Nat}, (∀ k, k ∈ n → m ≤ k) → ct_cb m l n = 0
  | [], _, _ => rfl
  | _ :: _, [], _ => rfl
  | e :: l, k :: n, h => by
    show (if ct_ib e = true ∧ k < m then ct_wt e else 0) + ct_cb m l n = 0
    rw [if_neg (fun hc => by have := h k List.mem_cons_self; omega), ct_cb_lo (fun k hk => h k (List.mem_cons_of_mem _ hk))]
theorem ct_ib_of {e : ct_D} (h : ct_nw e) : (ct_ib e = true ↔ e.1 = 4 ∨ e.1 = 6 ∨ e.1 = 7 ∨ e.1 = 8 ∨ e.1 = 12) := by
  unfold ct_ib
  rw [decide_eq_true_eq]
  obtain ⟨h1, h2, h3⟩ := h
  constructor
  · intro hc
    by_cases hq : e.1 = 2 ∨ e.1 = 4 ∨ e.1 = 6 ∨ e.1 = 7 ∨ e.1 = 8 ∨ e.1 = 12
    · rcases hq with hq | hq
      · exact absurd hq hc.2
      · exact hq
    · exact absurd (h3 hq).1 hc.1
  · intro hc
    rcases hc with hc | hc | hc | hc | hc
    · exact ⟨(h1 (Or.inr (Or.inl hc))).1, fun h => by rw [hc] at h; exact absurd h (by decide)⟩
    · exact ⟨(h1 (Or.inr (Or.inr (Or.inl hc)))).1, fun h => by rw [hc] at h; exact absurd h (by decide)⟩
    · exact ⟨(h1 (Or.inr (Or.inr (Or.inr (Or.inl hc))))).1, fun h => by rw [hc] at h; exact absurd h (by decide)⟩
    · exact ⟨(h1 (Or.inr (Or.inr (Or.inr (Or.inr hc))))).1, fun h => by rw [hc] at h; exact absurd h (by decide)⟩
    · exact ⟨(h2 hc).1, fun h => by rw [hc] at h; exact absurd h (by decide)⟩
theorem ct_cb_nd {m r : Nat} {e : ct_D} {a b c : ct_T} : ct_cb m (ct_fl (ct_nd e a b c)) (ct_mm r (ct_nd e a b c)) = (if ct_ib e = true ∧ ct_mo r e a b < m then ct_wt e else 0) + (ct_cb m (ct_fl a) (ct_mm (r + 1) a) + (ct_cb m (ct_fl b) (ct_mm (r + 1 + ct_sz a) b) + ct_cb m (ct_fl c) (ct_mm (r + 1 + ct_sz a + ct_sz b) c))) := by
  rw [ct_fl_nd, ct_mm_nd]
  show (if ct_ib e = true ∧ ct_mo r e a b < m then ct_wt e else 0) + ct_cb m (ct_fl a ++ (ct_fl b ++ ct_fl c)) _ = _
  rw [ct_cb_app (by rw [ct_fl_len, ct_mm_len]), ct_cb_app (by rw [ct_fl_len, ct_mm_len])]
theorem ct_bo_len {e : ct_D} {a b c : ct_T} (h : ct_nw e) : (ct_bo (ct_nd e a b c)).length = (if ct_ib e = true then ct_wt e else 0) + ((ct_bo a).length + ((ct_bo b).length + (ct_bo c).length)) := by
  have hi := ct_ib_of h
  rw [ct_bo_nd]
  unfold ct_wt
  by_cases h1 : e.1 = 4 ∨ e.1 = 7
  · rw [if_pos h1, if_pos (hi.mpr (by rcases h1 with h1 | h1; exact Or.inl h1; exact Or.inr (Or.inr (Or.inl h1)))), if_neg (fun hc => by rcases h1 with h1 | h1 <;> (rw [h1] at hc; exact absurd hc (by decide)))]
    simp only [List.length_cons, List.length_append]; omega
  · rw [if_neg h1]
    by_cases h2 : e.1 = 6 ∨ e.1 = 8
    · rw [if_pos h2, if_pos (hi.mpr (by rcases h2 with h1 | h1; exact Or.inr (Or.inl h1); exact Or.inr (Or.inr (Or.inr (Or.inl h1))))), if_neg (fun hc => by rcases h2 with h1 | h1 <;> (rw [h1] at hc; exact absurd hc (by decide)))]
      simp only [List.length_cons, List.length_append]; omega
    · rw [if_neg h2]
      by_cases h3 : e.1 = 12
      · rw [if_pos h3, if_pos (hi.mpr (Or.inr (Or.inr (Or.inr (Or.inr h3))))), if_pos h3]
        simp only [List.length_cons, List.length_append]; omega
      · rw [if_neg h3, if_neg (fun hc => by
          rcases hi.mp hc with hc | hc | hc | hc | hc
          · exact h1 (Or.inl hc)
          · exact h2 (Or.inl hc)
          · exact h1 (Or.inr hc)
          · exact h2 (Or.inr hc)
          · exact h3 hc)]
        simp only [List.length_append]; omega
theorem ct_cb_hi {m : Nat} : ∀ t, ct_wf t → ∀ r, ct_nws t → 2 * (r + ct_sz t) ≤ m → ct_cb m (ct_fl t) (ct_mm r t) = (ct_bo t).length :=
  ct_ind (fun r _ _ => rfl) (fun e a b c hw iha ihb ihc r hn hm => by
    obtain ⟨n0, n1, n2, n3⟩ := ct_nws_nd hn
    have h2 := ct_mo_b (r := r) hw
    rw [ct_cb_nd, ct_bo_len n0]
    rw [ct_sz_nd] at hm h2
    rw [iha _ n1 (by omega), ihb _ n2 (by omega), ihc _ n3 (by omega)]
    congr 1
    by_cases h : ct_ib e = true
    · rw [if_pos h, if_pos ⟨h, by omega⟩]
    · rw [if_neg h, if_neg (fun hc => h hc.1)])
