/-! ## a34 two runs from the same memory come to the same; memories that are one -/
theorem cm_At_h {X : am_Xs} {d y pc : Nat} {L : am_L} {st : List Value} {S S2 : cm_S} {K : cm_K} (hh : cm_h S 0 cm_T = cm_h S2 0 cm_T) (h : cm_At X d y pc L st S2 K) : cm_At X d y pc L st S K := by
  obtain ⟨f, r, S3, k, h1, h2⟩ := h
  exact ⟨f, r, S3, k, fun c s => by rw [hh]; exact h1 c s, h2⟩
theorem cm_At_det {X : am_Xs} {d y pc : Nat} {L : am_L} {st : List Value} {S A1 A2 : cm_S} {r1 r2 : am_O} (h1 : cm_At X d y pc L st S (fun r B k => r = r1 ∧ B = A1 ∧ k = 0)) (h2 : cm_At X d y pc L st S (fun r B k => r = r2 ∧ B = A2 ∧ k = 0)) : r1 = r2 ∧ cm_h A1 0 cm_T = cm_h A2 0 cm_T := by
  obtain ⟨f1, q1, B1, k1, g1, rfl, rfl, rfl⟩ := h1
  obtain ⟨f2, q2, B2, k2, g2, rfl, rfl, rfl⟩ := h2
  have e1 := am_fuel _ _ _ _ _ _ _ _ _ _ _ (g1 0 0) (max f1 f2) (Nat.le_max_left _ _)
  have e2 := am_fuel _ _ _ _ _ _ _ _ _ _ _ (g2 0 0) (max f1 f2) (Nat.le_max_right _ _)
  rw [e1] at e2
  injection e2 with e3
  injection e3 with e4 e5
  injection e5 with e6 e7
  exact ⟨e4, e6⟩
/-- the class's run from one memory, the rest from another -/
def dw_mix (A S : cm_S) : cm_S := (fun b => if 57 ≤ b ∧ b ≤ 79 then A.1 b else S.1 b, fun b => if 57 ≤ b ∧ b ≤ 79 then A.2 b else S.2 b)
theorem dw_mix_A {A S : cm_S} : cf_W (fun b _ => decide (¬ (57 ≤ b ∧ b ≤ 79))) A (dw_mix A S) := fun b j hb => by
  have h : 57 ≤ b ∧ b ≤ 79 := Classical.byContradiction (fun hc => absurd hc (of_decide_eq_false hb))
  unfold dw_mix
  dsimp only
  rw [if_pos h, if_pos h]
  exact ⟨rfl, rfl⟩
theorem dw_mix_S {A S : cm_S} : cf_W (fun b _ => decide (57 ≤ b ∧ b ≤ 79)) S (dw_mix A S) := fun b j hb => by
  have h := of_decide_eq_false hb
  unfold dw_mix
  dsimp only
  rw [if_neg h, if_neg h]
  exact ⟨rfl, rfl⟩
theorem dw_mix_h {A1 A2 S : cm_S} {W : Nat → Nat → Bool} (hh : cm_h A1 0 cm_T = cm_h A2 0 cm_T) (hS : cf_W W A1 S) (hW : ∀ b j, 57 ≤ b → b ≤ 79 → W b j = false) : cm_h S 0 cm_T = cm_h (dw_mix A2 S) 0 cm_T := by
  refine List.ext_getElem? (fun b => ?_)
  rw [cm_h_get, cm_h_get]
  have hb : (cm_h A1 0 cm_T)[b]? = (cm_h A2 0 cm_T)[b]? := by rw [hh]
  rw [cm_h_get, cm_h_get] at hb
  by_cases hc : 57 ≤ b ∧ b ≤ 79
  · have e1 : ∀ t, cm_e S (0 + b) t = cm_e A1 (0 + b) t := cm_e_eq (funext fun j => (hS _ j (hW _ j (by omega) (by omega))).1) (funext fun j => (hS _ j (hW _ j (by omega) (by omega))).2)
    have e2 : ∀ t, cm_e (dw_mix A2 S) (0 + b) t = cm_e A2 (0 + b) t := cm_e_eq (by
      unfold dw_mix
      dsimp only
      rw [if_pos (by omega)]) (by
      unfold dw_mix
      dsimp only
      rw [if_pos (by omega)])
    rw [show cm_e S (0 + b) = cm_e A1 (0 + b) from funext e1, show cm_e (dw_mix A2 S) (0 + b) = cm_e A2 (0 + b) from funext e2]
    exact hb
  · have e2 : ∀ t, cm_e (dw_mix A2 S) (0 + b) t = cm_e S (0 + b) t := cm_e_eq (by
      unfold dw_mix
      dsimp only
      rw [if_neg (by omega)]) (by
      unfold dw_mix
      dsimp only
      rw [if_neg (by omega)])
    rw [show cm_e (dw_mix A2 S) (0 + b) = cm_e S (0 + b) from funext e2]
