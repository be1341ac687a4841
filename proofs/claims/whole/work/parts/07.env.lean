/-! ## 07 what holds of the machine around a method of this system; what runs keep -/
theorem am_mono (X : am_Xs) (df : am_Df) (T : am_T) : ∀ (f d y pc : Nat) (L : am_L) (st : List Value) (u : am_M) (r : am_O × am_M), am_ev X df T f d y pc L st u = some r → u.1.length ≤ r.2.1.length ∧ u.2.1 ≤ r.2.2.1 ∧ u.2.2 ≤ r.2.2.2
  | 0, d, y, pc, L, st, u, r, h => by simp [am_ev] at h
  | f + 1, d, y, pc, L, st, u, r, h => by
    unfold am_ev at h
    split at h
    · cases h
    · next B nB hh hT =>
      split at h
      · split at h
        · exact am_mono X df T f _ _ _ _ _ _ _ h
        · cases h
      · next i n ex hB =>
        split at h
        · next r1 hw =>
          have h1 := am_mono X df T f _ _ _ _ _ _ _ h
          have h2 : r1.2.length = u.1.length := by
            cases i <;> simp only [am_w] at hw
            all_goals first | (cases hw; done) | skip
            all_goals (repeat' split at hw)
            all_goals first | (cases hw; done) | skip
            all_goals (cases hw; exact List.length_set ..)
          refine ⟨?_, h1.2⟩
          have h3 : r1.2.length ≤ r.2.1.length := h1.1
          omega
        · cases h
      · split at h
        · exact am_mono X df T f _ _ _ _ _ _ _ h
        · cases h
      · next i n ex hB =>
        split at h
        · next r1 hw =>
          have h1 := am_mono X df T f _ _ _ _ _ _ _ h
          have h2 : u.1.length ≤ r1.2.1.length ∧ u.2.1 ≤ r1.2.2.1 ∧ u.2.2 ≤ r1.2.2.2 := by
            cases i <;> simp only [am_n] at hw
            all_goals first | (cases hw; done) | skip
            all_goals (repeat' split at hw)
            all_goals first | (cases hw; done) | skip
            all_goals (cases hw; exact ⟨by simp, by simp, by simp⟩)
          omega
        · cases h
      · split at h
        · split at h
          · split at h
            · next v u2 he =>
              have h0 := am_mono X df T f _ _ _ _ _ _ _ he
              cases hc : (Nat.beq u2.1.length u.1.length || am_sc u.1.length L (st.drop _) []) with
              | true =>
                rw [hc] at h
                have h1 := am_mono X df T f _ _ _ _ _ _ _ h
                dsimp only at h0
                omega
              | false =>
                rw [hc] at h
                cases h
            · next E u2 he =>
              have h0 := am_mono X df T f _ _ _ _ _ _ _ he
              split at h
              · cases h
                exact h0
              · split at h
                · next t _ j n _ =>
                  cases hc : ((Nat.beq u2.1.length u.1.length || am_sc u.1.length L [] []) && Nat.blt j L.length) with
                  | true =>
                    rw [hc] at h
                    have h1 := am_mono X df T f _ _ _ _ _ _ _ h
                    dsimp only at h0
                    omega
                  | false =>
                    rw [hc] at h
                    cases h
                · cases h
            · cases h
          · cases h
        · cases h
      · split at h
        · cases h
          exact ⟨Nat.le_refl _, Nat.le_refl _, Nat.le_refl _⟩
        · split at h
          · cases h
            exact ⟨Nat.le_refl _, Nat.le_refl _, Nat.le_refl _⟩
          · cases h
        · cases h
          exact ⟨Nat.le_refl _, Nat.le_refl _, Nat.le_refl _⟩
        · cases h
          exact ⟨Nat.le_refl _, Nat.le_refl _, Nat.le_refl _⟩
        · cases h
      · split at h
        · split at h
          · cases h
            exact ⟨Nat.le_refl _, Nat.le_succ _, Nat.le_add_right _ _⟩
          · cases h
        · cases h
      · split at h
        · split at h
          · exact am_mono X df T f _ _ _ _ _ _ _ h
          · cases h
        · cases h
      · cases h
/-- what holds of a state in which a method of the system begins: the tables' words that aren't good ones, the statics, the rows from outside -/
def am_Env (D : va_G) (cA : Nat → ClassId) (cl : List vw_C) (NW : List Cond) (SR NC : List (String × Nat × String)) (A : Nat → Prop) (X : am_Xs) (ad : Nat → Nat) (U : State) : Prop :=
  va_K D cl (am_tys cA) U ∧ (∀ w ∈ NW, va_Nw w U) ∧ (∀ q ∈ SR, ∃ sa, vk_R q.1 q.2.1 q.2.2 sa U) ∧ vx_Zq Bundle.tN "UNASSIGNED_STACK" Bundle.steD A U U.heap ∧ vx_Zq Bundle.tN "SUPPRESSED_SENTINEL" Bundle.listD A U U.heap ∧
    va_Z am_sC am_sN am_sD (.ref (ad (am_EX + 1))) A U U.heap ∧ (∀ a n f, X a = some (n, f) → am_EX ≤ a ∧ am_Xt (ad a) n f U U.heap ∧ ad a < U.heap.size ∧ ¬ A (ad a)) ∧ (∀ q, U.heap.size ≤ q → A q) ∧ ∀ q ∈ NC, va_Nc q.1 q.2.2 U
def am_nest (w : Cond) : Prop := (∃ a i b n d h, w = .fieldLinkNest a i b n d h) ∨ (∃ a i x h, w = .methodLinkNest a i x h) ∨ (∃ x, w = .declares x) ∨ ∃ a b, w = .castable a b
theorem am_Nc_moved {C T : String} {u U : State} (hvm : u.vm.Alike U.vm) (h : va_Nc C T u) : va_Nc C T U := by
  obtain ⟨c, t, h1, h2, h3⟩ := h
  exact ⟨c, t, by rw [hvm.findClass]; exact h1, by rw [hvm.findClass]; exact h2, by rw [← h3]; exact hvm.assignable c t⟩
theorem am_Env.moved {D : va_G} {cA : Nat → ClassId} {cl : List vw_C} {NW : List Cond} {SR NC : List (String × Nat × String)} {A : Nat → Prop} {X : am_Xs} {ad ad2 : Nat → Nat} {s U : State} (hNW : ∀ w ∈ NW, am_nest w) (hW : s.WarmedH U.vm) (h2 : ∀ i, am_EX ≤ i → ad2 i = ad i)
    (hz : s.heap.size ≤ U.heap.size) (hk : ∀ q, q < s.heap.size → ¬ A q → U.heap[q]? = s.heap[q]?) (h : am_Env D cA cl NW SR NC A X ad s) : am_Env D cA cl NW SR NC A X ad2 U := by
  obtain ⟨a1, a2, a3, a4, a5, a6, a7, a8, a9⟩ := h
  have hal := hW.alike
  refine ⟨a1.moved hal, fun w hw => ?_, fun q hq => ?_, (a4.moved hal).kept hk, (a5.moved hal).kept hk, ?_, fun a n f hx => ?_, fun q hq => a8 q (Nat.le_trans hz hq), fun q hq => am_Nc_moved hal (a9 q hq)⟩
  · rcases hNW w hw with ⟨a, i, b, n, d, hh, rfl⟩ | ⟨a, i, x, hh, rfl⟩ | ⟨x, rfl⟩ | ⟨a, b, rfl⟩
    · exact va_Nw.warmF hW (a2 _ hw)
    · exact va_Nw.warmM hW (a2 _ hw)
    · exact va_Nw.warmD hW (a2 _ hw)
    · exact va_Nw.warmC hW (a2 _ hw)
  · obtain ⟨sa, hsa⟩ := a3 q hq
    exact ⟨sa, hsa.warm hW⟩
  · rw [h2 _ (Nat.le_succ _)]
    exact (a6.moved hal).kept hk
  · obtain ⟨b1, b2, b3, b4⟩ := a7 a n f hx
    rw [h2 a b1]
    exact ⟨b1, (b2.moved hal).kept (hk _ b3 b4), Nat.lt_of_lt_of_le b3 hz, b4⟩
theorem am_Env.same {D : va_G} {cA : Nat → ClassId} {cl : List vw_C} {NW : List Cond} {SR NC : List (String × Nat × String)} {A : Nat → Prop} {X : am_Xs} {ad : Nat → Nat} {s U : State} (hNW : ∀ w ∈ NW, am_nest w) (hv : s.vm = U.vm) (hh : U.heap = s.heap)
    (h : am_Env D cA cl NW SR NC A X ad s) : am_Env D cA cl NW SR NC A X ad U := by
  obtain ⟨a1, a2, a3, a4, a5, a6, a7, a8, a9⟩ := h
  have hal : s.vm.Alike U.vm := by rw [hv]; exact Vm.Alike.refl U.vm
  refine ⟨a1.moved hal, fun w hw => ?_, fun q hq => ?_, by rw [hh]; exact a4.moved hal, by rw [hh]; exact a5.moved hal, by rw [hh]; exact a6.moved hal, fun a n f hx => ?_, by rw [hh]; exact a8, fun q hq => am_Nc_moved hal (a9 q hq)⟩
  · refine va_Nw.same ?_ hv (a2 w hw)
    rcases hNW w hw with ⟨a, i, b, n, d, hh, rfl⟩ | ⟨a, i, x, hh, rfl⟩ | ⟨x, rfl⟩ | ⟨a, b, rfl⟩ <;> rfl
  · obtain ⟨sa, hsa⟩ := a3 q hq
    exact ⟨sa, hsa.same hv.symm⟩
  · obtain ⟨b1, b2, b3, b4⟩ := a7 a n f hx
    rw [hh]
    exact ⟨b1, b2.moved hal, b3, b4⟩
