/-! ## 72 bits of longs, sets of variables -/
def cu_b (x : Int64) (k : Nat) : Bool := x.toBitVec.getLsbD k
theorem cu_b_or {x y : Int64} {k : Nat} : cu_b (x ||| y) k = (cu_b x k || cu_b y k) := by
  show (x.toBitVec ||| y.toBitVec).getLsbD k = _
  rw [BitVec.getLsbD_or]
  rfl
theorem cu_b_an {x y : Int64} {k : Nat} : cu_b (x &&& y) k = (cu_b x k && cu_b y k) := by
  show (x.toBitVec &&& y.toBitVec).getLsbD k = _
  rw [BitVec.getLsbD_and]
  rfl
theorem cu_b_z {k : Nat} : cu_b 0 k = false := by
  show (0#64).getLsbD k = false
  exact BitVec.getLsbD_zero
theorem cu_b_sh {m k : Nat} (hm : m < 64) (hk : k < 64) : cu_b ((1 : Int64) <<< ((Int32.ofNat m).toInt64 &&& 63)) k = decide (k = m) := by
  have h2 : ∀ m k : Fin 64, cu_b ((1 : Int64) <<< ((Int32.ofNat m.val).toInt64 &&& 63)) k.val = decide (k.val = m.val) := by decide +kernel
  exact h2 ⟨m, hm⟩ ⟨k, hk⟩
theorem cu_sm {m : Nat} (h : m < 64) : ((Int32.ofNat m).toInt64 &&& 63) = Int64.ofNat m ∧ ((Int64.ofNat m).toBitVec.smod 64).toNat = m := by
  have h2 : ∀ m : Fin 64, ((Int32.ofNat m.val).toInt64 &&& 63) = Int64.ofNat m.val ∧ ((Int64.ofNat m.val).toBitVec.smod 64).toNat = m.val := by decide +kernel
  exact h2 ⟨m, h⟩
theorem cu_lg {x y : Int64} : lg_cmp x y = 0 ↔ x = y := by
  unfold lg_cmp
  by_cases h1 : x > y
  · rw [if_pos h1]
    refine ⟨fun h => absurd h (by decide), fun h => ?_⟩
    subst h
    exact absurd h1 (by simp)
  · rw [if_neg h1]
    by_cases h2 : x = y
    · rw [if_pos h2]; exact ⟨fun _ => h2, fun _ => rfl⟩
    · rw [if_neg h2]; exact ⟨fun h => absurd h (by decide), fun h => absurd h h2⟩
theorem cu_a1 {x : Int64} : x &&& 1 = 1 ↔ cu_b x 0 = true := by
  rw [← Int64.toBitVec_inj]
  show x.toBitVec &&& 1#64 = 1#64 ↔ x.toBitVec.getLsbD 0 = true
  rw [BitVec.and_one_eq_setWidth_ofBool_getLsbD]
  cases x.toBitVec.getLsbD 0
  · exact ⟨fun h => absurd h (by decide), fun h => by cases h⟩
  · exact ⟨fun _ => rfl, fun _ => by decide⟩
theorem cu_b_sr {x : Int64} {m : Nat} (hm : m < 64) : cu_b (x >>> ((Int32.ofNat m).toInt64 &&& 63)) 0 = cu_b x m := by
  obtain ⟨h1, h2⟩ := cu_sm hm
  rw [h1]
  show (x.toBitVec.sshiftRight' ((Int64.ofNat m).toBitVec.smod 64)).getLsbD 0 = x.toBitVec.getLsbD m
  rw [BitVec.getLsbD_sshiftRight', h2, Nat.add_zero, if_pos hm]
  rfl
theorem cu_b_ts {x : Int64} {m : Nat} (hm : m < 64) : lg_cmp ((x >>> ((Int32.ofNat m).toInt64 &&& 63)) &&& (1 : Int64)) 1 = 0 ↔ cu_b x m = true := by
  rw [cu_lg, cu_a1, cu_b_sr hm]
theorem cu_dv {v : Nat} (h : v < 192) : Int32.ofNat v / 64 = Int32.ofNat (v / 64) ∧ Int32.ofNat v - Int32.ofNat v / 64 * 64 = Int32.ofNat (v % 64) := by
  have h2 : ∀ v : Fin 192, Int32.ofNat v.val / 64 = Int32.ofNat (v.val / 64) ∧ Int32.ofNat v.val - Int32.ofNat v.val / 64 * 64 = Int32.ofNat (v.val % 64) := by decide +kernel
  exact h2 ⟨v, h⟩
/-- the definition that a row of applications begins with -/
def cu_gl : ct_T → Option Nat
  | .inner _ e _ a (.inner _ _ _ _ _) => if e.1 = 5 then cu_gl a else if e.1 = 3 then some e.2.1.toInt32.toNatClampNeg else none
  | _ => none
/-- how many applications stand in a row -/
def cu_ar : ct_T → Nat
  | .inner _ e _ a (.inner _ _ _ _ _) => if e.1 = 5 then cu_ar a + 1 else 0
  | _ => 0
def cu_gM (M : Nat → Nat) (n : Nat) : Option Nat → Bool
  | some g => decide (M g ≤ n)
  | none => false
def cu_gQ (Q : Nat → Nat → Bool) (n : Nat) : Option Nat → Bool
  | some g => Q g n
  | none => false
/-- whether a variable is needed; and whether it is in one of the arguments of a row that are needed -/
def cu_n2 (Q : Nat → Nat → Bool) (M : Nat → Nat) : ct_T → Nat → Bool × Bool
  | .inner _ e _ a (.inner _ _ _ b c), v =>
    if e.1 = 2 then (decide (e.2.2.1 = Int32.ofNat v), false)
    else if e.1 = 5 then ((cu_n2 Q M a v).1 || (cu_gM M (cu_ar a + 1) (cu_gl a) && ((cu_n2 Q M a v).2 || (cu_gQ Q (cu_ar a) (cu_gl a) && (cu_n2 Q M b v).1))), (cu_n2 Q M a v).2 || (cu_gQ Q (cu_ar a) (cu_gl a) && (cu_n2 Q M b v).1))
    else if e.1 = 6 then ((cu_n2 Q M b v).1 || ((cu_n2 Q M b e.2.2.1.toNatClampNeg).1 && (cu_n2 Q M a v).1), false)
    else if e.1 = 7 then ((cu_n2 Q M b v).1, false)
    else if e.1 = 8 ∨ e.1 = 9 then ((cu_n2 Q M a v).1 || (cu_n2 Q M b v).1, false)
    else if e.1 = 12 ∨ e.1 = 13 then ((cu_n2 Q M a v).1 || ((cu_n2 Q M b v).1 && (cu_n2 Q M c v).1), false)
    else if e.1 = 14 then ((cu_n2 Q M a v).1, false)
    else (false, false)
  | _, _ => (false, false)
abbrev cu_nq (Q : Nat → Nat → Bool) (M : Nat → Nat) (t : ct_T) (v : Nat) : Bool := (cu_n2 Q M t v).1
theorem cu_n2_nd {Q : Nat → Nat → Bool} {M : Nat → Nat} {e : ct_D} {a b c : ct_T} {v : Nat} : cu_n2 Q M (ct_nd e a b c) v =
    if e.1 = 2 then (decide (e.2.2.1 = Int32.ofNat v), false)
    else if e.1 = 5 then ((cu_n2 Q M a v).1 || (cu_gM M (cu_ar a + 1) (cu_gl a) && ((cu_n2 Q M a v).2 || (cu_gQ Q (cu_ar a) (cu_gl a) && (cu_n2 Q M b v).1))), (cu_n2 Q M a v).2 || (cu_gQ Q (cu_ar a) (cu_gl a) && (cu_n2 Q M b v).1))
    else if e.1 = 6 then ((cu_n2 Q M b v).1 || ((cu_n2 Q M b e.2.2.1.toNatClampNeg).1 && (cu_n2 Q M a v).1), false)
    else if e.1 = 7 then ((cu_n2 Q M b v).1, false)
    else if e.1 = 8 ∨ e.1 = 9 then ((cu_n2 Q M a v).1 || (cu_n2 Q M b v).1, false)
    else if e.1 = 12 ∨ e.1 = 13 then ((cu_n2 Q M a v).1 || ((cu_n2 Q M b v).1 && (cu_n2 Q M c v).1), false)
    else if e.1 = 14 then ((cu_n2 Q M a v).1, false)
    else (false, false) := rfl
/-- where a row begins with a definition, what is needed is in the arguments -/
theorem cu_n2_ch {Q : Nat → Nat → Bool} {M : Nat → Nat} {v : Nat} : ∀ t, ct_wf t → (∀ g, cu_gl t = some g → (cu_n2 Q M t v).1 = (decide (M g ≤ cu_ar t) && (cu_n2 Q M t v).2)) :=
  ct_ind (fun g h => by cases h) (fun e a b c hw iha ihb ihc g h => by
    have hg : cu_gl (ct_nd e a b c) = if e.1 = 5 then cu_gl a else if e.1 = 3 then some e.2.1.toInt32.toNatClampNeg else none := rfl
    have ha : cu_ar (ct_nd e a b c) = if e.1 = 5 then cu_ar a + 1 else 0 := rfl
    rw [hg] at h
    rw [cu_n2_nd, ha]
    by_cases h5 : e.1 = 5
    · rw [if_pos h5] at h
      rw [if_neg (by rw [h5]; decide), if_pos h5, if_pos h5, iha g h, h]
      show ((decide (M g ≤ cu_ar a) && (cu_n2 Q M a v).2) || (decide (M g ≤ cu_ar a + 1) && ((cu_n2 Q M a v).2 || (Q g (cu_ar a) && (cu_n2 Q M b v).1)))) = (decide (M g ≤ cu_ar a + 1) && ((cu_n2 Q M a v).2 || (Q g (cu_ar a) && (cu_n2 Q M b v).1)))
      by_cases h1 : M g ≤ cu_ar a
      · rw [decide_eq_true h1, decide_eq_true (by omega : M g ≤ cu_ar a + 1)]
        cases (cu_n2 Q M a v).2 <;> simp
      · rw [decide_eq_false h1]; simp
    · rw [if_neg h5] at h
      by_cases h3 : e.1 = 3
      · rw [h3]
        rw [if_neg (by decide), if_neg (by decide), if_neg (by decide), if_neg (by decide), if_neg (by decide), if_neg (by decide), if_neg (by decide)]
        simp
      · rw [if_neg h3] at h; cases h)
/-- where it does not: what is needed in what is applied -/
theorem cu_n2_no {Q : Nat → Nat → Bool} {M : Nat → Nat} {e : ct_D} {a b c : ct_T} {v : Nat} (h5 : e.1 = 5) (hg : cu_gl a = none) : (cu_n2 Q M (ct_nd e a b c) v).1 = (cu_n2 Q M a v).1 := by
  rw [cu_n2_nd, if_neg (by rw [h5]; decide), if_pos h5, hg]
  show ((cu_n2 Q M a v).1 || (false && _)) = _
  rw [Bool.false_and, Bool.or_false]
/-- fewer parameters that are needed, fewer variables -/
theorem cu_n2_mo {Q Q2 : Nat → Nat → Bool} {M : Nat → Nat} (hq : ∀ g k, Q g k = true → Q2 g k = true) : ∀ t, ct_wf t → ∀ v, ((cu_n2 Q M t v).1 = true → (cu_n2 Q2 M t v).1 = true) ∧ ((cu_n2 Q M t v).2 = true → (cu_n2 Q2 M t v).2 = true) :=
  ct_ind (fun v => ⟨fun h => h, fun h => h⟩) (fun e a b c hw iha ihb ihc v => by
    rw [cu_n2_nd, cu_n2_nd]
    have qg : ∀ (n : Nat) (o : Option Nat), cu_gQ Q n o = true → cu_gQ Q2 n o = true := fun n o h => by
      cases o with
      | none => exact h
      | some g => exact hq g n h
    by_cases h2 : e.1 = 2
    · rw [if_pos h2, if_pos h2]; exact ⟨fun h => h, fun h => h⟩
    rw [if_neg h2, if_neg h2]
    by_cases h5 : e.1 = 5
    · rw [if_pos h5, if_pos h5]
      simp only [Bool.or_eq_true, Bool.and_eq_true]
      have u : ((cu_n2 Q M a v).2 = true ∨ cu_gQ Q (cu_ar a) (cu_gl a) = true ∧ (cu_n2 Q M b v).1 = true) → ((cu_n2 Q2 M a v).2 = true ∨ cu_gQ Q2 (cu_ar a) (cu_gl a) = true ∧ (cu_n2 Q2 M b v).1 = true) := fun h => by
        rcases h with h | ⟨h, h'⟩
        · exact Or.inl ((iha v).2 h)
        · exact Or.inr ⟨qg _ _ h, (ihb v).1 h'⟩
      refine ⟨fun h => ?_, u⟩
      rcases h with h | ⟨h, h'⟩
      · exact Or.inl ((iha v).1 h)
      · exact Or.inr ⟨h, u h'⟩
    rw [if_neg h5, if_neg h5]
    by_cases h6 : e.1 = 6
    · rw [if_pos h6, if_pos h6]
      simp only [Bool.or_eq_true, Bool.and_eq_true]
      refine ⟨fun h => ?_, fun h => h⟩
      rcases h with h | ⟨h, h'⟩
      · exact Or.inl ((ihb v).1 h)
      · exact Or.inr ⟨(ihb _).1 h, (iha v).1 h'⟩
    rw [if_neg h6, if_neg h6]
    by_cases h7 : e.1 = 7
    · rw [if_pos h7, if_pos h7]
      exact ⟨fun h => (ihb v).1 h, fun h => h⟩
    rw [if_neg h7, if_neg h7]
    by_cases h8 : e.1 = 8 ∨ e.1 = 9
    · rw [if_pos h8, if_pos h8]
      simp only [Bool.or_eq_true]
      refine ⟨fun h => ?_, fun h => h⟩
      rcases h with h | h
      · exact Or.inl ((iha v).1 h)
      · exact Or.inr ((ihb v).1 h)
    rw [if_neg h8, if_neg h8]
    by_cases h12 : e.1 = 12 ∨ e.1 = 13
    · rw [if_pos h12, if_pos h12]
      simp only [Bool.or_eq_true, Bool.and_eq_true]
      refine ⟨fun h => ?_, fun h => h⟩
      rcases h with h | ⟨h, h'⟩
      · exact Or.inl ((iha v).1 h)
      · exact Or.inr ⟨(ihb v).1 h, (ihc v).1 h'⟩
    rw [if_neg h12, if_neg h12]
    by_cases h14 : e.1 = 14
    · rw [if_pos h14, if_pos h14]
      exact ⟨fun h => (iha v).1 h, fun h => h⟩
    rw [if_neg h14, if_neg h14]
    exact ⟨fun h => h, fun h => h⟩)
