/-! ## 33 trees: a node with three parts (a leaf: no part); rows of nodes -/
/-- kind, number, the two names -/
abbrev ct_D : Type := Int32 × Int64 × Int32 × Int32
abbrev ct_T : Type := Std.DTreeMap.Internal.Impl ct_D (fun _ => Unit)
def ct_nd (e : ct_D) (a b c : ct_T) : ct_T := .inner 0 e () a (.inner 0 (0, 0, 0, 0) () b c)
/-- how many parts a kind has -/
def ct_ar (k : Int32) : Nat := (am_pt k.toNatClampNeg).toNatClampNeg
def ct_sz : ct_T → Nat
  | .inner _ _ _ a (.inner _ _ _ b c) => 1 + (ct_sz a + (ct_sz b + ct_sz c))
  | _ => 0
def ct_fl : ct_T → List ct_D
  | .inner _ e _ a (.inner _ _ _ b c) => e :: (ct_fl a ++ (ct_fl b ++ ct_fl c))
  | _ => []
/-- the parts are as many as the kind has -/
def ct_wf : ct_T → Prop
  | .leaf => True
  | .inner n e _ a (.inner m e2 _ b c) => n = 0 ∧ m = 0 ∧ e2 = (0, 0, 0, 0) ∧ (1 ≤ e.1.toInt ∧ e.1.toInt ≤ 14) ∧ (a = .leaf ↔ ct_ar e.1 < 1) ∧ (b = .leaf ↔ ct_ar e.1 < 2) ∧ (c = .leaf ↔ ct_ar e.1 < 3) ∧ ct_wf a ∧ ct_wf b ∧ ct_wf c
  | _ => False
theorem ct_ind {P : ct_T → Prop} (h0 : P .leaf) (h1 : ∀ e a b c, ct_wf (ct_nd e a b c) → P a → P b → P c → P (ct_nd e a b c)) : ∀ t, ct_wf t → P t
  | .leaf, _ => h0
  | .inner n e u a .leaf, h => h.elim
  | .inner n e u a (.inner m e2 u2 b c), h => by
    obtain ⟨h2, h3, h4, h5, h6, h7, h8, ha, hb, hc⟩ := id h
    subst h2; subst h3; subst h4
    exact h1 e a b c h (ct_ind h0 h1 a ha) (ct_ind h0 h1 b hb) (ct_ind h0 h1 c hc)
theorem ct_wf_nd {e : ct_D} {a b c : ct_T} (h : ct_wf (ct_nd e a b c)) : (1 ≤ e.1.toInt ∧ e.1.toInt ≤ 14) ∧ (a = .leaf ↔ ct_ar e.1 < 1) ∧ (b = .leaf ↔ ct_ar e.1 < 2) ∧ (c = .leaf ↔ ct_ar e.1 < 3) ∧ ct_wf a ∧ ct_wf b ∧ ct_wf c := h.2.2.2
theorem ct_sz_nd {e : ct_D} {a b c : ct_T} : ct_sz (ct_nd e a b c) = 1 + (ct_sz a + (ct_sz b + ct_sz c)) := rfl
theorem ct_sz_lf : ct_sz .leaf = 0 := rfl
theorem ct_fl_nd {e : ct_D} {a b c : ct_T} : ct_fl (ct_nd e a b c) = e :: (ct_fl a ++ (ct_fl b ++ ct_fl c)) := rfl
theorem ct_fl_len : ∀ t : ct_T, (ct_fl t).length = ct_sz t
  | .leaf => rfl
  | .inner _ _ _ _ .leaf => rfl
  | .inner _ e _ a (.inner _ _ _ b c) => by
    show (e :: (ct_fl a ++ (ct_fl b ++ ct_fl c))).length = 1 + (ct_sz a + (ct_sz b + ct_sz c))
    rw [List.length_cons, List.length_append, List.length_append, ct_fl_len a, ct_fl_len b, ct_fl_len c]
    omega
theorem ct_sz_pos {e : ct_D} {a b c : ct_T} : 0 < ct_sz (ct_nd e a b c) := by rw [ct_sz_nd]; omega
/-- a node of a row of the class -/
def cp_row (S : cm_S) (a i : Nat) : ct_D := (S.1 (a + 1) i, S.2 (a + 4) i, S.1 (a + 2) i, S.1 (a + 3) i)
/-- a stretch of a row -/
def ck_f (S : cm_S) (a r : Nat) (l : List ct_D) : Prop := ∀ (i : Nat) (e : ct_D), l[i]? = some e → cp_row S a (r + i) = e
theorem ck_f_nil {S : cm_S} {a r : Nat} : ck_f S a r [] := fun i e h => by simp at h
theorem ck_f_cons {S : cm_S} {a r : Nat} {e : ct_D} {l : List ct_D} : ck_f S a r (e :: l) ↔ cp_row S a r = e ∧ ck_f S a (r + 1) l := by
  refine ⟨fun h => ⟨h 0 e rfl, fun i x hi => ?_⟩, fun h i x hi => ?_⟩
  · have h2 := h (i + 1) x (by simpa using hi)
    rw [show r + (i + 1) = r + 1 + i by omega] at h2
    exact h2
  · rcases i with _ | i
    · rw [List.getElem?_cons_zero] at hi
      cases hi
      exact h.1
    · rw [List.getElem?_cons_succ] at hi
      rw [show r + (i + 1) = r + 1 + i by omega]
      exact h.2 i x hi
theorem ck_f_app {S : cm_S} {a : Nat} {l2 : List ct_D} : ∀ {l : List ct_D} {r : Nat}, ck_f S a r (l ++ l2) ↔ ck_f S a r l ∧ ck_f S a (r + l.length) l2
  | [], r => ⟨fun h => ⟨ck_f_nil, h⟩, fun h => h.2⟩
  | e :: l, r => by
    rw [List.cons_append, ck_f_cons, ck_f_cons, ck_f_app (l := l), List.length_cons, show r + 1 + l.length = r + (l.length + 1) by omega]
    exact ⟨fun h => ⟨⟨h.1, h.2.1⟩, h.2.2⟩, fun h => ⟨h.1.1, h.1.2, h.2⟩⟩
/-- the sizes of a tree's nodes, in the row's order -/
def ct_ss : ct_T → List Nat
  | .inner _ _ _ a (.inner _ _ _ b c) => (1 + (ct_sz a + (ct_sz b + ct_sz c))) :: (ct_ss a ++ (ct_ss b ++ ct_ss c))
  | _ => []
theorem ct_ss_len : ∀ t : ct_T, (ct_ss t).length = ct_sz t
  | .leaf => rfl
  | .inner _ _ _ _ .leaf => rfl
  | .inner _ e _ a (.inner _ _ _ b c) => by
    show ((1 + (ct_sz a + (ct_sz b + ct_sz c))) :: (ct_ss a ++ (ct_ss b ++ ct_ss c))).length = 1 + (ct_sz a + (ct_sz b + ct_sz c))
    rw [List.length_cons, List.length_append, List.length_append, ct_ss_len a, ct_ss_len b, ct_ss_len c]
    omega
/-- a stretch of the row of sizes -/
def ck_z (S : cm_S) (a r : Nat) (l : List Nat) : Prop := ∀ (i n : Nat), l[i]? = some n → S.1 (a + 5) (r + i) = Int32.ofNat n
theorem ck_z_nil {S : cm_S} {a r : Nat} : ck_z S a r [] := fun i e h => by simp at h
theorem ck_z_cons {S : cm_S} {a r : Nat} {e : Nat} {l : List Nat} : ck_z S a r (e :: l) ↔ S.1 (a + 5) r = Int32.ofNat e ∧ ck_z S a (r + 1) l := by
  refine ⟨fun h => ⟨h 0 e rfl, fun i x hi => ?_⟩, fun h i x hi => ?_⟩
  · have h2 := h (i + 1) x (by simpa using hi)
    rw [show r + (i + 1) = r + 1 + i by omega] at h2
    exact h2
  · rcases i with _ | i
    · rw [List.getElem?_cons_zero] at hi
      cases hi
      exact h.1
    · rw [List.getElem?_cons_succ] at hi
      rw [show r + (i + 1) = r + 1 + i by omega]
      exact h.2 i x hi
theorem ck_z_app {S : cm_S} {a : Nat} {l2 : List Nat} : ∀ {l : List Nat} {r : Nat}, ck_z S a r (l ++ l2) ↔ ck_z S a r l ∧ ck_z S a (r + l.length) l2
  | [], r => ⟨fun h => ⟨ck_z_nil, h⟩, fun h => h.2⟩
  | e :: l, r => by
    rw [List.cons_append, ck_z_cons, ck_z_cons, ck_z_app (l := l), List.length_cons, show r + 1 + l.length = r + (l.length + 1) by omega]
    exact ⟨fun h => ⟨⟨h.1, h.2.1⟩, h.2.2⟩, fun h => ⟨h.1.1, h.1.2, h.2⟩⟩
/-- a tree in the rows of a Code -/
def ck_t (S : cm_S) (a r : Nat) (t : ct_T) : Prop := ck_f S a r (ct_fl t) ∧ ck_z S a r (ct_ss t) ∧ r + ct_sz t ≤ cm_cap a
theorem ck_t_nd {S : cm_S} {a r : Nat} {e : ct_D} {x y z : ct_T} : ck_t S a r (ct_nd e x y z) ↔ cp_row S a r = e ∧ S.1 (a + 5) r = Int32.ofNat (ct_sz (ct_nd e x y z)) ∧ r < cm_cap a ∧ ck_t S a (r + 1) x ∧ ck_t S a (r + 1 + ct_sz x) y ∧ ck_t S a (r + 1 + ct_sz x + ct_sz y) z := by
  unfold ck_t
  rw [show ct_fl (ct_nd e x y z) = e :: (ct_fl x ++ (ct_fl y ++ ct_fl z)) from rfl, show ct_ss (ct_nd e x y z) = ct_sz (ct_nd e x y z) :: (ct_ss x ++ (ct_ss y ++ ct_ss z)) from rfl, ck_f_cons, ck_f_app, ck_f_app, ck_z_cons, ck_z_app, ck_z_app, ct_fl_len, ct_fl_len, ct_ss_len, ct_ss_len, ct_sz_nd]
  constructor
  · rintro ⟨⟨h1, h2, h3, h4⟩, ⟨h5, h6, h7, h8⟩, h9⟩
    exact ⟨h1, h5, by omega, ⟨h2, h6, by omega⟩, ⟨h3, h7, by omega⟩, ⟨h4, h8, by omega⟩⟩
  · rintro ⟨h1, h5, h9, ⟨h2, h6, h10⟩, ⟨h3, h7, h11⟩, ⟨h4, h8, h12⟩⟩
    exact ⟨⟨h1, h2, h3, h4⟩, ⟨h5, h6, h7, h8⟩, by omega⟩
