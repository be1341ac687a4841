/-! ## 19 more fuel; memory as two functions of a thing's number and a place in it (all things are made in constructors) -/
theorem am_fuel (X : am_Xs) (df : am_Df) (T : am_T) : ∀ (f d y pc : Nat) (L : am_L) (st : List Value) (u : am_M) (r : am_O × am_M), am_ev X df T f d y pc L st u = some r → ∀ g, f ≤ g → am_ev X df T g d y pc L st u = some r
  | 0, d, y, pc, L, st, u, r, h, g, hg => by simp [am_ev] at h
  | f + 1, d, y, pc, L, st, u, r, h, 0, hg => by omega
  | f + 1, d, y, pc, L, st, u, r, h, g + 1, hg => by
    have hg2 : f ≤ g := by omega
    have ih := fun d y pc L st u r h => am_fuel X df T f d y pc L st u r h g hg2
    unfold am_ev at h ⊢
    split at h
    · cases h
    · next B nB hh hT =>
      split at h
      · next i n ex hB =>
        split at h
        · next r1 hs => exact ih _ _ _ _ _ _ _ h
        · cases h
      · next i n ex hB =>
        split at h
        · next r1 hs => exact ih _ _ _ _ _ _ _ h
        · cases h
      · next i n ex hB =>
        split at h
        · next r1 hs => exact ih _ _ _ _ _ _ _ h
        · cases h
      · next i n ex hB =>
        split at h
        · next r1 hs => exact ih _ _ _ _ _ _ _ h
        · cases h
      · next i n kd y2 k cis hB =>
        split at h
        · next d2 B2 nL h2 hT2 =>
          split at h
          · next hc =>
            split at h
            · next v u2 he =>
              simp only [ih _ _ _ _ _ _ _ he]
              cases hb : (Nat.beq u2.1.length u.1.length || am_sc u.1.length L (st.drop k) []) with
              | true =>
                rw [hb] at h
                exact ih _ _ _ _ _ _ _ h
              | false =>
                rw [hb] at h
                cases h
            · next E u2 he =>
              simp only [ih _ _ _ _ _ _ _ he]
              split at h
              · next hn => exact h
              · next t hn =>
                split at h
                · next j n2 hs =>
                  cases hb : ((Nat.beq u2.1.length u.1.length || am_sc u.1.length L [] []) && Nat.blt j L.length) with
                  | true =>
                    rw [hb] at h
                    exact ih _ _ _ _ _ _ _ h
                  | false =>
                    rw [hb] at h
                    cases h
                · cases h
            · cases h
          · cases h
        · cases h
      · next i n ex hB => exact h
      · next i n E hB => exact h
      · next i n ex hB =>
        split at h
        · next a st2 =>
          split at h
          · next hc => rw [if_pos hc]; exact ih _ _ _ _ _ _ _ h
          · cases h
        · cases h
      · cases h
abbrev cm_S : Type := (Nat → Nat → Int32) × (Nat → Nat → Int64)
/-- a thing's form: an object's class and fields (inl r: always the thing r; inr 0: an int; inr 1: a long), or a row's kind and length -/
abbrev cm_F : Type := (Nat × List (Nat ⊕ Nat)) ⊕ (Nat × Nat)
def cm_fv (S : cm_S) (i k : Nat) : Nat ⊕ Nat → Value
  | .inl r => .ref r
  | .inr 1 => .long (S.2 i k)
  | .inr _ => .int (S.1 i k)
def cm_fl (S : cm_S) (i k : Nat) : List (Nat ⊕ Nat) → List Value
  | [] => []
  | t :: r => cm_fv S i k t :: cm_fl S i (k + 1) r
def cm_e (S : cm_S) (i : Nat) : cm_F → am_E
  | .inl (c, fs) => .inr (c, cm_fl S i 0 fs)
  | .inr (1, n) => .inl (1, n, .inr (.inl (S.2 i)))
  | .inr (t, n) => .inl (t, n, .inl (S.1 i))
def cm_h (S : cm_S) (i : Nat) : List cm_F → List am_E
  | [] => []
  | t :: r => cm_e S i t :: cm_h S (i + 1) r
def cm_T : List cm_F := [.inl (11, [.inl 1, .inl 9, .inl 21, .inl 27, .inl 33, .inl 37, .inl 57, .inl 80]), .inl (6, [.inl 2, .inl 8, .inr 0]), .inl (1, [.inl 3, .inl 4, .inl 5, .inl 6, .inl 7]), .inr (0, 120), .inr (0, 120), .inr (0, 120), .inr (1, 120), .inr (0, 120), .inr (0, 360), .inl (0, [.inl 1, .inl 10, .inl 16, .inl 17, .inr 0, .inl 18, .inl 19, .inl 20, .inr 0]), .inl (1, [.inl 11, .inl 12, .inl 13, .inl 14, .inl 15]), .inr (0, 80), .inr (0, 80), .inr (0, 80), .inr (1, 80), .inr (0, 80), .inr (0, 240), .inr (0, 240), .inr (0, 160), .inr (0, 160), .inr (0, 160), .inl (1, [.inl 22, .inl 23, .inl 24, .inl 25, .inl 26]), .inr (0, 1200), .inr (0, 1200), .inr (0, 1200), .inr (1, 1200), .inr (0, 1200), .inl (1, [.inl 28, .inl 29, .inl 30, .inl 31, .inl 32]), .inr (0, 1200), .inr (0, 1200), .inr (0, 1200), .inr (1, 1200), .inr (0, 1200), .inl (2, [.inl 27, .inl 34, .inl 35, .inl 36, .inr 0]), .inr (1, 450), .inr (0, 8), .inr (0, 8), .inl (7, [.inl 27, .inl 33, .inl 38, .inl 44, .inl 50, .inl 56, .inr 0, .inr 0, .inr 0]), .inl (1, [.inl 39, .inl 40, .inl 41, .inl 42, .inl 43]), .inr (0, 1200), .inr (0, 1200), .inr (0, 1200), .inr (1, 1200), .inr (0, 1200), .inl (1, [.inl 45, .inl 46, .inl 47, .inl 48, .inl 49]), .inr (0, 8192), .inr (0, 8192), .inr (0, 8192), .inr (1, 8192), .inr (0, 8192), .inl (3, [.inl 51, .inl 52, .inl 53, .inl 54, .inl 55, .inr 0, .inr 0]), .inr (0, 150), .inr (0, 150), .inr (0, 150), .inr (1, 150), .inr (0, 150), .inr (0, 10), .inl (5, [.inl 58, .inl 64, .inl 72, .inl 77, .inl 79, .inr 0, .inr 0, .inr 0, .inr 0, .inr 0, .inr 0, .inr 0]), .inl (1, [.inl 59, .inl 60, .inl 61, .inl 62, .inl 63]), .inr (0, 1200), .inr (0, 1200), .inr (0, 1200), .inr (1, 1200), .inr (0, 1200), .inl (10, [.inl 65, .inl 66, .inl 67, .inl 68, .inr 0, .inl 69, .inl 70, .inl 71, .inr 0]), .inr (0, 8009), .inr (0, 8009), .inr (0, 8009), .inr (1, 8009), .inr (0, 8000), .inr (0, 8000), .inr (0, 8000), .inl (4, [.inl 73, .inl 74, .inl 75, .inl 76, .inr 0]), .inr (0, 4064), .inr (0, 4064), .inr (0, 4064), .inr (1, 4064), .inl (9, [.inl 78, .inr 0, .inr 0, .inr 1]), .inr (0, 42), .inr (0, 6), .inl (8, [.inl 58, .inl 64, .inl 81, .inl 82, .inr 0]), .inr (0, 8009), .inr (2, 8009), .inl (12, [.inr 0, .inl 84, .inl 85, .inl 86, .inl 87, .inl 88, .inl 89, .inl 90, .inl 91, .inr 0, .inl 92, .inl 93, .inl 94, .inl 95, .inl 96, .inl 97, .inl 98, .inr 0, .inl 99, .inr 0, .inr 0, .inl 100, .inl 101, .inr 0, .inl 102, .inl 103, .inr 0, .inl 104, .inl 105, .inl 106, .inl 107, .inr 0, .inr 0, .inr 0, .inl 108, .inl 109, .inl 110, .inl 111, .inl 112, .inl 113, .inr 0, .inr 0, .inr 0, .inr 0, .inr 0, .inr 0, .inl 114, .inl 115, .inl 116, .inl 117, .inr 0, .inl 118, .inl 119, .inl 120, .inr 0, .inl 121, .inl 122, .inl 123, .inl 124, .inr 0, .inl 125, .inl 126, .inl 127, .inr 0, .inr 0, .inr 0, .inl 128, .inr 0, .inr 0, .inl 129, .inr 1, .inr 1, .inl 130, .inr 0, .inl 131, .inr 0]), .inr (0, 120), .inr (1, 120), .inr (0, 120), .inr (0, 120), .inr (0, 120), .inr (0, 120), .inr (0, 120), .inr (0, 26), .inr (0, 8192), .inr (1, 8192), .inr (0, 8192), .inr (0, 8192), .inr (0, 8192), .inr (0, 8192), .inr (0, 8192), .inr (0, 8192), .inr (0, 32768), .inr (0, 32768), .inr (2, 8), .inr (0, 32), .inr (0, 10), .inr (0, 10), .inr (0, 10), .inr (0, 10), .inr (0, 8), .inr (0, 32), .inr (0, 8), .inr (2, 32), .inr (1, 2000), .inr (0, 160), .inr (0, 8192), .inr (0, 8192), .inr (0, 8192), .inr (2, 8192), .inr (0, 8192), .inr (0, 8192), .inr (0, 8192), .inr (0, 8192), .inr (1, 8192), .inr (0, 8192), .inr (0, 8192), .inr (0, 8192), .inr (0, 8192), .inr (0, 8192), .inr (0, 6), .inr (0, 64), .inr (2, 8192), .inr (0, 8192), .inr (1, 1)]
def cm_wI (S : cm_S) (a k : Nat) (x : Int32) : cm_S := (fun b => cond (Nat.beq b a) (upd (S.1 a) k x) (S.1 b), S.2)
def cm_wJ (S : cm_S) (a k : Nat) (x : Int64) : cm_S := (S.1, fun b => cond (Nat.beq b a) (vp_updL (S.2 a) k x) (S.2 b))
theorem cm_nb {a b : Nat} (h : ¬ b = a) : Nat.beq b a = false := by
  cases hb : Nat.beq b a with
  | false => rfl
  | true => exact absurd (Nat.eq_of_beq_eq_true hb) h
theorem cm_wI_at {S : cm_S} {a k : Nat} {x : Int32} : (cm_wI S a k x).1 a = upd (S.1 a) k x := by
  show cond (Nat.beq a a) _ _ = _
  rw [Nat.beq_refl]; rfl
theorem cm_wI_ne {S : cm_S} {a b k : Nat} {x : Int32} (h : ¬ b = a) : (cm_wI S a k x).1 b = S.1 b := by
  show cond (Nat.beq b a) _ _ = _
  rw [show Nat.beq b a = false from cm_nb h]; rfl
theorem cm_wJ_at {S : cm_S} {a k : Nat} {x : Int64} : (cm_wJ S a k x).2 a = vp_updL (S.2 a) k x := by
  show cond (Nat.beq a a) _ _ = _
  rw [Nat.beq_refl]; rfl
theorem cm_wJ_ne {S : cm_S} {a b k : Nat} {x : Int64} (h : ¬ b = a) : (cm_wJ S a k x).2 b = S.2 b := by
  show cond (Nat.beq b a) _ _ = _
  rw [show Nat.beq b a = false from cm_nb h]; rfl
theorem cm_h_get {S : cm_S} : ∀ {T : List cm_F} {i a : Nat}, (cm_h S i T)[a]? = (T[a]?).map (cm_e S (i + a))
  | [], i, a => by simp [cm_h]
  | t :: r, i, 0 => by simp [cm_h]
  | t :: r, i, a + 1 => by
    rw [cm_h, List.getElem?_cons_succ, List.getElem?_cons_succ, cm_h_get, show i + 1 + a = i + (a + 1) by omega]
theorem cm_h_len {S : cm_S} : ∀ {T : List cm_F} {i : Nat}, (cm_h S i T).length = T.length
  | [], i => rfl
  | t :: r, i => by rw [cm_h, List.length_cons, List.length_cons, cm_h_len]
theorem cm_fl_get {S : cm_S} {i : Nat} : ∀ {fs : List (Nat ⊕ Nat)} {k0 k : Nat}, (cm_fl S i k0 fs)[k]? = (fs[k]?).map (cm_fv S i (k0 + k))
  | [], k0, k => by simp [cm_fl]
  | t :: r, k0, 0 => by simp [cm_fl]
  | t :: r, k0, k + 1 => by
    rw [cm_fl, List.getElem?_cons_succ, List.getElem?_cons_succ, cm_fl_get, show k0 + 1 + k = k0 + (k + 1) by omega]
theorem cm_fl_len {S : cm_S} {i : Nat} : ∀ {fs : List (Nat ⊕ Nat)} {k0 : Nat}, (cm_fl S i k0 fs).length = fs.length
  | [], k0 => rfl
  | t :: r, k0 => by rw [cm_fl, List.length_cons, List.length_cons, cm_fl_len]
theorem cm_fv_eq {S S2 : cm_S} {i k : Nat} (h1 : S2.1 i k = S.1 i k) (h2 : S2.2 i k = S.2 i k) : ∀ t, cm_fv S2 i k t = cm_fv S i k t
  | .inl r => rfl
  | .inr 0 => by simp only [cm_fv]; rw [h1]
  | .inr 1 => by simp only [cm_fv]; rw [h2]
  | .inr (n + 2) => by simp only [cm_fv]; rw [h1]
theorem cm_fl_eq {S S2 : cm_S} {i : Nat} : ∀ {fs : List (Nat ⊕ Nat)} {k0 : Nat}, (∀ k, k0 ≤ k → S2.1 i k = S.1 i k ∧ S2.2 i k = S.2 i k) → cm_fl S2 i k0 fs = cm_fl S i k0 fs
  | [], k0, h => rfl
  | t :: r, k0, h => by
    rw [cm_fl, cm_fl, cm_fv_eq (h k0 (Nat.le_refl _)).1 (h k0 (Nat.le_refl _)).2, cm_fl_eq (fun k hk => h k (by omega))]
theorem cm_e_eq {S S2 : cm_S} {i : Nat} (h1 : S2.1 i = S.1 i) (h2 : S2.2 i = S.2 i) : ∀ t, cm_e S2 i t = cm_e S i t
  | .inl (c, fs) => by
    simp only [cm_e]
    rw [cm_fl_eq (S := S) (S2 := S2) (fun k _ => ⟨by rw [h1], by rw [h2]⟩)]
  | .inr (0, n) => by simp only [cm_e]; rw [h1]
  | .inr (1, n) => by simp only [cm_e]; rw [h2]
  | .inr (t + 2, n) => by simp only [cm_e]; rw [h1]
theorem cm_h_eq {S S2 : cm_S} : ∀ {T : List cm_F} {i : Nat}, (∀ b, i ≤ b → S2.1 b = S.1 b ∧ S2.2 b = S.2 b) → cm_h S2 i T = cm_h S i T
  | [], i, h => rfl
  | t :: r, i, h => by
    rw [cm_h, cm_h, cm_e_eq (h i (Nat.le_refl _)).1 (h i (Nat.le_refl _)).2, cm_h_eq (fun k hk => h k (by omega))]
theorem cm_h_set {S S2 : cm_S} {e : am_E} {t : cm_F} : ∀ {T : List cm_F} {i a : Nat}, T[a]? = some t → cm_e S2 (i + a) t = e → (∀ b, ¬ b = i + a → S2.1 b = S.1 b ∧ S2.2 b = S.2 b) → (cm_h S i T).set a e = cm_h S2 i T
  | [], i, a, h, _, _ => by simp at h
  | t0 :: r, i, 0, h, he, hb => by
    rw [List.getElem?_cons_zero] at h
    cases h
    rw [cm_h, cm_h, List.set_cons_zero, ← he, cm_h_eq (fun b hb2 => hb b (by omega))]
    rfl
  | t0 :: r, i, a + 1, h, he, hb => by
    rw [List.getElem?_cons_succ] at h
    rw [cm_h, cm_h, List.set_cons_succ, cm_e_eq (hb i (by omega)).1 (hb i (by omega)).2, cm_h_set h (by rw [show i + 1 + a = i + (a + 1) by omega]; exact he) (fun b hb2 => hb b (by omega))]
theorem cm_fl_set {S S2 : cm_S} {i : Nat} {v : Value} {t : Nat ⊕ Nat} : ∀ {fs : List (Nat ⊕ Nat)} {k0 k : Nat}, fs[k]? = some t → cm_fv S2 i (k0 + k) t = v → (∀ b, ¬ b = k0 + k → S2.1 i b = S.1 i b ∧ S2.2 i b = S.2 i b) → (cm_fl S i k0 fs).set k v = cm_fl S2 i k0 fs
  | [], k0, k, h, _, _ => by simp at h
  | t0 :: r, k0, 0, h, he, hb => by
    rw [List.getElem?_cons_zero] at h
    cases h
    rw [cm_fl, cm_fl, List.set_cons_zero, ← he, cm_fl_eq (fun b hb2 => hb b (by omega))]
    rfl
  | t0 :: r, k0, k + 1, h, he, hb => by
    rw [List.getElem?_cons_succ] at h
    rw [cm_fl, cm_fl, List.set_cons_succ, cm_fv_eq (hb k0 (by omega)).1 (hb k0 (by omega)).2, cm_fl_set h (by rw [show k0 + 1 + k = k0 + (k + 1) by omega]; exact he) (fun b hb2 => hb b (by omega))]
theorem cm_setI {S : cm_S} {a n k : Nat} {x : Int32} {g : Nat} (hg : ¬ g = 1) (h : cm_T[a]? = some (.inr (g, n))) : (cm_h S 0 cm_T).set a (.inl (g, n, .inl (upd (S.1 a) k x))) = cm_h (cm_wI S a k x) 0 cm_T := by
  refine cm_h_set h ?_ (fun b hb => ?_)
  · rw [Nat.zero_add]
    rcases g with _ | _ | g
    · simp only [cm_e]; rw [cm_wI_at]
    · exact absurd rfl hg
    · simp only [cm_e]; rw [cm_wI_at]
  · rw [Nat.zero_add] at hb
    exact ⟨cm_wI_ne hb, rfl⟩
theorem cm_setJ {S : cm_S} {a n k : Nat} {x : Int64} (h : cm_T[a]? = some (.inr (1, n))) : (cm_h S 0 cm_T).set a (.inl (1, n, .inr (.inl (vp_updL (S.2 a) k x)))) = cm_h (cm_wJ S a k x) 0 cm_T := by
  refine cm_h_set h ?_ (fun b hb => ?_)
  · rw [Nat.zero_add]
    simp only [cm_e]; rw [cm_wJ_at]
  · rw [Nat.zero_add] at hb
    exact ⟨rfl, cm_wJ_ne hb⟩
theorem cm_setF {S : cm_S} {a c k : Nat} {x : Int32} {fs : List (Nat ⊕ Nat)} (h : cm_T[a]? = some (.inl (c, fs))) (hk : fs[k]? = some (.inr 0)) : (cm_h S 0 cm_T).set a (.inr (c, (cm_fl S a 0 fs).set k (.int x))) = cm_h (cm_wI S a k x) 0 cm_T := by
  refine cm_h_set h ?_ (fun b hb => ?_)
  · rw [Nat.zero_add]
    simp only [cm_e]
    rw [cm_fl_set (S2 := cm_wI S a k x) hk ?_ (fun b hb => ?_)]
    · rw [Nat.zero_add]
      simp only [cm_fv]
      rw [cm_wI_at]
      simp [upd]
    · rw [Nat.zero_add] at hb
      rw [cm_wI_at]
      exact ⟨by simp [upd, hb], rfl⟩
  · rw [Nat.zero_add] at hb
    exact ⟨cm_wI_ne hb, rfl⟩
theorem cm_setG {S : cm_S} {a c k : Nat} {x : Int64} {fs : List (Nat ⊕ Nat)} (h : cm_T[a]? = some (.inl (c, fs))) (hk : fs[k]? = some (.inr 1)) : (cm_h S 0 cm_T).set a (.inr (c, (cm_fl S a 0 fs).set k (.long x))) = cm_h (cm_wJ S a k x) 0 cm_T := by
  refine cm_h_set h ?_ (fun b hb => ?_)
  · rw [Nat.zero_add]
    simp only [cm_e]
    rw [cm_fl_set (S2 := cm_wJ S a k x) hk ?_ (fun b hb => ?_)]
    · rw [Nat.zero_add]
      simp only [cm_fv]
      rw [cm_wJ_at]
      simp [vp_updL]
    · rw [Nat.zero_add] at hb
      rw [cm_wJ_at]
      exact ⟨rfl, by simp [vp_updL, hb]⟩
  · rw [Nat.zero_add] at hb
    exact ⟨rfl, cm_wJ_ne hb⟩
/-- the same by halves -/
def cm_tf (a : Nat) : Option cm_F := cond (Nat.blt a 133) (cond (Nat.blt a 66) (cond (Nat.blt a 33) (cond (Nat.blt a 16) (cond (Nat.blt a 8) (cond (Nat.blt a 4) (cond (Nat.blt a 2) (cond (Nat.blt a 1) (some (.inl (11, [.inl 1, .inl 9, .inl 21, .inl 27, .inl 33, .inl 37, .inl 57, .inl 80]))) (some (.inl (6, [.inl 2, .inl 8, .inr 0])))) (cond (Nat.blt a 3) (some (.inl (1, [.inl 3, .inl 4, .inl 5, .inl 6, .inl 7]))) (some (.inr (0, 120))))) (cond (Nat.blt a 6) (cond (Nat.blt a 5) (some (.inr (0, 120))) (some (.inr (0, 120)))) (cond (Nat.blt a 7) (some (.inr (1, 120))) (some (.inr (0, 120)))))) (cond (Nat.blt a 12) (cond (Nat.blt a 10) (cond (Nat.blt a 9) (some (.inr (0, 360))) (some (.inl (0, [.inl 1, .inl 10, .inl 16, .inl 17, .inr 0, .inl 18, .inl 19, .inl 20, .inr 0])))) (cond (Nat.blt a 11) (some (.inl (1, [.inl 11, .inl 12, .inl 13, .inl 14, .inl 15]))) (some (.inr (0, 80))))) (cond (Nat.blt a 14) (cond (Nat.blt a 13) (some (.inr (0, 80))) (some (.inr (0, 80)))) (cond (Nat.blt a 15) (some (.inr (1, 80))) (some (.inr (0, 80))))))) (cond (Nat.blt a 24) (cond (Nat.blt a 20) (cond (Nat.blt a 18) (cond (Nat.blt a 17) (some (.inr (0, 240))) (some (.inr (0, 240)))) (cond (Nat.blt a 19) (some (.inr (0, 160))) (some (.inr (0, 160))))) (cond (Nat.blt a 22) (cond (Nat.blt a 21) (some (.inr (0, 160))) (some (.inl (1, [.inl 22, .inl 23, .inl 24, .inl 25, .inl 26])))) (cond (Nat.blt a 23) (some (.inr (0, 1200))) (some (.inr (0, 1200)))))) (cond (Nat.blt a 28) (cond (Nat.blt a 26) (cond (Nat.blt a 25) (some (.inr (0, 1200))) (some (.inr (1, 1200)))) (cond (Nat.blt a 27) (some (.inr (0, 1200))) (some (.inl (1, [.inl 28, .inl 29, .inl 30, .inl 31, .inl 32]))))) (cond (Nat.blt a 30) (cond (Nat.blt a 29) (some (.inr (0, 1200))) (some (.inr (0, 1200)))) (cond (Nat.blt a 31) (some (.inr (0, 1200))) (cond (Nat.blt a 32) (some (.inr (1, 1200))) (some (.inr (0, 1200))))))))) (cond (Nat.blt a 49) (cond (Nat.blt a 41) (cond (Nat.blt a 37) (cond (Nat.blt a 35) (cond (Nat.blt a 34) (some (.inl (2, [.inl 27, .inl 34, .inl 35, .inl 36, .inr 0]))) (some (.inr (1, 450)))) (cond (Nat.blt a 36) (some (.inr (0, 8))) (some (.inr (0, 8))))) (cond (Nat.blt a 39) (cond (Nat.blt a 38) (some (.inl (7, [.inl 27, .inl 33, .inl 38, .inl 44, .inl 50, .inl 56, .inr 0, .inr 0, .inr 0]))) (some (.inl (1, [.inl 39, .inl 40, .inl 41, .inl 42, .inl 43])))) (cond (Nat.blt a 40) (some (.inr (0, 1200))) (some (.inr (0, 1200)))))) (cond (Nat.blt a 45) (cond (Nat.blt a 43) (cond (Nat.blt a 42) (some (.inr (0, 1200))) (some (.inr (1, 1200)))) (cond (Nat.blt a 44) (some (.inr (0, 1200))) (some (.inl (1, [.inl 45, .inl 46, .inl 47, .inl 48, .inl 49]))))) (cond (Nat.blt a 47) (cond (Nat.blt a 46) (some (.inr (0, 8192))) (some (.inr (0, 8192)))) (cond (Nat.blt a 48) (some (.inr (0, 8192))) (some (.inr (1, 8192))))))) (cond (Nat.blt a 57) (cond (Nat.blt a 53) (cond (Nat.blt a 51) (cond (Nat.blt a 50) (some (.inr (0, 8192))) (some (.inl (3, [.inl 51, .inl 52, .inl 53, .inl 54, .inl 55, .inr 0, .inr 0])))) (cond (Nat.blt a 52) (some (.inr (0, 150))) (some (.inr (0, 150))))) (cond (Nat.blt a 55) (cond (Nat.blt a 54) (some (.inr (0, 150))) (some (.inr (1, 150)))) (cond (Nat.blt a 56) (some (.inr (0, 150))) (some (.inr (0, 10)))))) (cond (Nat.blt a 61) (cond (Nat.blt a 59) (cond (Nat.blt a 58) (some (.inl (5, [.inl 58, .inl 64, .inl 72, .inl 77, .inl 79, .inr 0, .inr 0, .inr 0, .inr 0, .inr 0, .inr 0, .inr 0]))) (some (.inl (1, [.inl 59, .inl 60, .inl 61, .inl 62, .inl 63])))) (cond (Nat.blt a 60) (some (.inr (0, 1200))) (some (.inr (0, 1200))))) (cond (Nat.blt a 63) (cond (Nat.blt a 62) (some (.inr (0, 1200))) (some (.inr (1, 1200)))) (cond (Nat.blt a 64) (some (.inr (0, 1200))) (cond (Nat.blt a 65) (some (.inl (10, [.inl 65, .inl 66, .inl 67, .inl 68, .inr 0, .inl 69, .inl 70, .inl 71, .inr 0]))) (some (.inr (0, 8009)))))))))) (cond (Nat.blt a 99) (cond (Nat.blt a 82) (cond (Nat.blt a 74) (cond (Nat.blt a 70) (cond (Nat.blt a 68) (cond (Nat.blt a 67) (some (.inr (0, 8009))) (some (.inr (0, 8009)))) (cond (Nat.blt a 69) (some (.inr (1, 8009))) (some (.inr (0, 8000))))) (cond (Nat.blt a 72) (cond (Nat.blt a 71) (some (.inr (0, 8000))) (some (.inr (0, 8000)))) (cond (Nat.blt a 73) (some (.inl (4, [.inl 73, .inl 74, .inl 75, .inl 76, .inr 0]))) (some (.inr (0, 4064)))))) (cond (Nat.blt a 78) (cond (Nat.blt a 76) (cond (Nat.blt a 75) (some (.inr (0, 4064))) (some (.inr (0, 4064)))) (cond (Nat.blt a 77) (some (.inr (1, 4064))) (some (.inl (9, [.inl 78, .inr 0, .inr 0, .inr 1]))))) (cond (Nat.blt a 80) (cond (Nat.blt a 79) (some (.inr (0, 42))) (some (.inr (0, 6)))) (cond (Nat.blt a 81) (some (.inl (8, [.inl 58, .inl 64, .inl 81, .inl 82, .inr 0]))) (some (.inr (0, 8009))))))) (cond (Nat.blt a 90) (cond (Nat.blt a 86) (cond (Nat.blt a 84) (cond (Nat.blt a 83) (some (.inr (2, 8009))) (some (.inl (12, [.inr 0, .inl 84, .inl 85, .inl 86, .inl 87, .inl 88, .inl 89, .inl 90, .inl 91, .inr 0, .inl 92, .inl 93, .inl 94, .inl 95, .inl 96, .inl 97, .inl 98, .inr 0, .inl 99, .inr 0, .inr 0, .inl 100, .inl 101, .inr 0, .inl 102, .inl 103, .inr 0, .inl 104, .inl 105, .inl 106, .inl 107, .inr 0, .inr 0, .inr 0, .inl 108, .inl 109, .inl 110, .inl 111, .inl 112, .inl 113, .inr 0, .inr 0, .inr 0, .inr 0, .inr 0, .inr 0, .inl 114, .inl 115, .inl 116, .inl 117, .inr 0, .inl 118, .inl 119, .inl 120, .inr 0, .inl 121, .inl 122, .inl 123, .inl 124, .inr 0, .inl 125, .inl 126, .inl 127, .inr 0, .inr 0, .inr 0, .inl 128, .inr 0, .inr 0, .inl 129, .inr 1, .inr 1, .inl 130, .inr 0, .inl 131, .inr 0])))) (cond (Nat.blt a 85) (some (.inr (0, 120))) (some (.inr (1, 120))))) (cond (Nat.blt a 88) (cond (Nat.blt a 87) (some (.inr (0, 120))) (some (.inr (0, 120)))) (cond (Nat.blt a 89) (some (.inr (0, 120))) (some (.inr (0, 120)))))) (cond (Nat.blt a 94) (cond (Nat.blt a 92) (cond (Nat.blt a 91) (some (.inr (0, 120))) (some (.inr (0, 26)))) (cond (Nat.blt a 93) (some (.inr (0, 8192))) (some (.inr (1, 8192))))) (cond (Nat.blt a 96) (cond (Nat.blt a 95) (some (.inr (0, 8192))) (some (.inr (0, 8192)))) (cond (Nat.blt a 97) (some (.inr (0, 8192))) (cond (Nat.blt a 98) (some (.inr (0, 8192))) (some (.inr (0, 8192))))))))) (cond (Nat.blt a 116) (cond (Nat.blt a 107) (cond (Nat.blt a 103) (cond (Nat.blt a 101) (cond (Nat.blt a 100) (some (.inr (0, 8192))) (some (.inr (0, 32768)))) (cond (Nat.blt a 102) (some (.inr (0, 32768))) (some (.inr (2, 8))))) (cond (Nat.blt a 105) (cond (Nat.blt a 104) (some (.inr (0, 32))) (some (.inr (0, 10)))) (cond (Nat.blt a 106) (some (.inr (0, 10))) (some (.inr (0, 10)))))) (cond (Nat.blt a 111) (cond (Nat.blt a 109) (cond (Nat.blt a 108) (some (.inr (0, 10))) (some (.inr (0, 8)))) (cond (Nat.blt a 110) (some (.inr (0, 32))) (some (.inr (0, 8))))) (cond (Nat.blt a 113) (cond (Nat.blt a 112) (some (.inr (2, 32))) (some (.inr (1, 2000)))) (cond (Nat.blt a 114) (some (.inr (0, 160))) (cond (Nat.blt a 115) (some (.inr (0, 8192))) (some (.inr (0, 8192)))))))) (cond (Nat.blt a 124) (cond (Nat.blt a 120) (cond (Nat.blt a 118) (cond (Nat.blt a 117) (some (.inr (0, 8192))) (some (.inr (2, 8192)))) (cond (Nat.blt a 119) (some (.inr (0, 8192))) (some (.inr (0, 8192))))) (cond (Nat.blt a 122) (cond (Nat.blt a 121) (some (.inr (0, 8192))) (some (.inr (0, 8192)))) (cond (Nat.blt a 123) (some (.inr (1, 8192))) (some (.inr (0, 8192)))))) (cond (Nat.blt a 128) (cond (Nat.blt a 126) (cond (Nat.blt a 125) (some (.inr (0, 8192))) (some (.inr (0, 8192)))) (cond (Nat.blt a 127) (some (.inr (0, 8192))) (some (.inr (0, 8192))))) (cond (Nat.blt a 130) (cond (Nat.blt a 129) (some (.inr (0, 6))) (some (.inr (0, 64)))) (cond (Nat.blt a 131) (some (.inr (2, 8192))) (cond (Nat.blt a 132) (some (.inr (0, 8192))) (some (.inr (1, 1))))))))))) none
theorem cm_tf_all : (List.range 133).all (fun a => match cm_tf a, cm_T[a]? with
  | some (.inl (c, f)), some (.inl (d, g)) => decide (c = d ∧ f = g)
  | some (.inr p), some (.inr q) => decide (p = q)
  | _, _ => false) = true := by decide +kernel
theorem cm_tf_lt (a : Nat) (h : a < 133) : cm_tf a = cm_T[a]? := by
  have h1 := List.all_eq_true.mp cm_tf_all a (List.mem_range.mpr h)
  split at h1
  · next c f d g e1 e2 =>
    rw [e1, e2]
    obtain ⟨rfl, rfl⟩ := of_decide_eq_true h1
    rfl
  · next p q e1 e2 =>
    rw [e1, e2, of_decide_eq_true h1]
  · cases h1
theorem cm_T_len : cm_T.length = 133 := by decide +kernel
theorem cm_tf_ok (a : Nat) : cm_tf a = cm_T[a]? := by
  by_cases h : a < 133
  · exact cm_tf_lt a h
  · rw [List.getElem?_eq_none (by rw [cm_T_len]; omega)]
    unfold cm_tf
    cases hb : Nat.blt a 133 with
    | false => rfl
    | true => exact absurd (by simpa using hb) h
