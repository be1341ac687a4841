/-! ## 20 symbolic runs: what a stretch of a method's table asks, and that the abstract machine then does it -/
abbrev am_Bf : Type := Nat → Option am_I
abbrev cm_K : Type := am_O → cm_S → Nat → Prop
/-- from here the machine comes to an end of which K holds (the number: exceptions made) -/
def cm_At (X : am_Xs) (d y pc : Nat) (L : am_L) (st : List Value) (S : cm_S) (K : cm_K) : Prop := ∃ (f : Nat) (r : am_O) (S2 : cm_S) (k : Nat), (∀ c s, am_ev X am_df am_TT f d y pc L st (cm_h S 0 cm_T, c, s) = some (r, (cm_h S2 0 cm_T, c + k, s + 6 * k))) ∧ K r S2 k
/-- what a field holds, under a name -/
def cm_gf (S : cm_S) (a k : Nat) (t : Nat ⊕ Nat) (Q : Value → Prop) : Prop := match t with
  | .inl r => Q (.ref r)
  | .inr 1 => ∀ x, x = S.2 a k → Q (.long x)
  | .inr _ => ∀ x, x = S.1 a k → Q (.int x)
theorem cm_gf_ok {S : cm_S} {a k : Nat} {t : Nat ⊕ Nat} {Q : Value → Prop} (h : cm_gf S a k t Q) : Q (cm_fv S a k t) := by
  rcases t with r | n
  · exact h
  · rcases n with _ | _ | n
    · exact h _ rfl
    · exact h _ rfl
    · exact h _ rfl
def cm_ws (X : am_Xs) (ex : List Nat) (L : am_L) (st : List Value) (S : cm_S) (K : am_L → List Value → Prop) : Instr → Prop
  | .getfield _ => match ex, st with
    | k :: cis, .ref a :: st => match cm_tf a with
      | some (.inl (c, fs)) => match am_mem c cis, fs[k]? with
        | true, some t => cm_gf S a k t (fun v => K L (v :: st))
        | _, _ => False
      | _ => False
    | _, _ => False
  | .arraylength => match st with
    | .ref a :: st => match cm_tf a with
      | some (.inr (0, n)) => K L (.int (Int32.ofNat n) :: st)
      | some (.inr (1, n)) => K L (.int (Int32.ofNat n) :: st)
      | some (.inr (2, n)) => K L (.int (Int32.ofNat n) :: st)
      | none => match X a with
        | some (n, _) => K L (.int (Int32.ofNat n) :: st)
        | none => False
      | _ => False
    | _ => False
  | .iaload => match st with
    | .int i :: .ref a :: st => match cm_tf a with
      | some (.inr (0, n)) => am_in i n ∧ ∀ x, x = S.1 a i.toNatClampNeg → K L (.int x :: st)
      | none => match X a with
        | some (n, f) => am_in i n ∧ ∀ x, x = f i.toNatClampNeg → K L (.int x :: st)
        | none => False
      | _ => False
    | _ => False
  | .laload => match st with
    | .int i :: .ref a :: st => match cm_tf a with
      | some (.inr (1, n)) => am_in i n ∧ ∀ x, x = S.2 a i.toNatClampNeg → K L (.long x :: st)
      | _ => False
    | _ => False
  | .baload => match st with
    | .int i :: .ref a :: st => match cm_tf a with
      | some (.inr (2, n)) => am_in i n ∧ ∀ x, x = S.1 a i.toNatClampNeg → K L (.int x :: st)
      | _ => False
    | _ => False
  | .idiv => match st with
    | .int y :: .int x :: st => ¬ y = 0 ∧ K L (.int (x / y) :: st)
    | _ => False
  | .irem => match st with
    | .int y :: .int x :: st => ¬ y = 0 ∧ K L (.int (x - x / y * y) :: st)
    | _ => False
  | i => match am_s X ex L st [] i with
    | some r => K r.1 r.2
    | none => False
def cm_ww (ex : List Nat) (st : List Value) (S : cm_S) (K : List Value → cm_S → Prop) : Instr → Prop
  | .iastore => match st with
    | .int x :: .int i :: .ref a :: st => match cm_tf a with
      | some (.inr (0, n)) => am_in i n ∧ ∀ S2, S2 = cm_wI S a i.toNatClampNeg x → K st S2
      | _ => False
    | _ => False
  | .lastore => match st with
    | .long x :: .int i :: .ref a :: st => match cm_tf a with
      | some (.inr (1, n)) => am_in i n ∧ ∀ S2, S2 = cm_wJ S a i.toNatClampNeg x → K st S2
      | _ => False
    | _ => False
  | .bastore => match st with
    | .int x :: .int i :: .ref a :: st => match cm_tf a with
      | some (.inr (2, n)) => am_in i n ∧ ∀ S2, S2 = cm_wI S a i.toNatClampNeg (vp_nar .boolean x) → K st S2
      | _ => False
    | _ => False
  | .putfield _ => match ex, st with
    | k :: ty :: cis, v :: .ref a :: st => match cm_tf a with
      | some (.inl (c, fs)) => match am_mem c cis, fs[k]?, ty, v with
        | true, some (.inr 0), 0, .int x => ∀ S2, S2 = cm_wI S a k x → K st S2
        | true, some (.inr 1), 1, .long x => ∀ S2, S2 = cm_wJ S a k x → K st S2
        | true, some (.inr 0), 2, .int x => (x = 0 ∨ x = 1) ∧ ∀ S2, S2 = cm_wI S a k x → K st S2
        | _, _, _, _ => False
      | _ => False
    | _, _ => False
  | _ => False
def cm_ic (c : Jvm.ClassFile.Cond) (x y : Int32) (A B : Prop) : Prop := match c with
  | .eq => (x = y → A) ∧ (¬ x = y → B)
  | .ne => (x = y → B) ∧ (¬ x = y → A)
  | .lt => (x < y → A) ∧ (¬ x < y → B)
  | .ge => (x < y → B) ∧ (¬ x < y → A)
  | .gt => (y < x → A) ∧ (¬ y < x → B)
  | .le => (y < x → B) ∧ (¬ y < x → A)
def cm_sw (W : Nat → Prop) (x : Int) (d : Nat) : List Int → List Nat → Prop
  | k :: ks, t :: ts => (x = k → W t) ∧ (¬ x = k → cm_sw W x d ks ts)
  | _, _ => W d
def cm_ks (lo : Int) : List Nat → List Int
  | [] => []
  | _ :: r => lo :: cm_ks (lo + 1) r
def cm_wj (ex : List Nat) (st : List Value) (K : List Value → Nat → Prop) (nx : Nat) : Instr → Prop
  | .goto _ => match ex with
    | [t] => K st t
    | _ => False
  | .ifCond c _ => match ex, st with
    | [t], .int x :: st => cm_ic c x 0 (K st t) (K st nx)
    | _, _ => False
  | .if_icmp c _ => match ex, st with
    | [t], .int y :: .int x :: st => cm_ic c x y (K st t) (K st nx)
    | _, _ => False
  | .tableswitch _ lo hi _ => match ex, st with
    | d :: ts, .int x :: st => cond (decide (hi + 1 = lo + (ts.length : Int))) (cm_sw (K st) x.toInt d (cm_ks lo ts) ts) False
    | _, _ => False
  | .lookupswitch _ ps => match ex, st with
    | d :: ts, .int x :: st => cm_sw (K st) x.toInt d (ps.toList.map Prod.fst) ts
    | _, _ => False
  | _ => False
def cm_rk (y : Nat) : Nat := match am_Ml[y]? with
  | some q => match q.2.2.2.1 with
    | none => 0
    | some .long => 2
    | some _ => 1
  | none => 0
def cm_r0 (A : Prop) (E : Nat → Prop) : am_O → Prop
  | .inl none => A
  | .inl (some _) => False
  | .inr e => E e
def cm_r1 (A : Int32 → Prop) (E : Nat → Prop) : am_O → Prop
  | .inl (some (.int x)) => A x
  | .inl _ => False
  | .inr e => E e
def cm_r2 (A : Int64 → Prop) (E : Nat → Prop) : am_O → Prop
  | .inl (some (.long x)) => A x
  | .inl _ => False
  | .inr e => E e
def cm_rc (as : List Value) (cis : List Nat) : Bool := match as with
  | .ref a :: _ => match cm_tf a with
    | some (.inl (c, _)) => am_mem c cis
    | _ => false
  | _ => false
abbrev cm_W : Type := Nat → am_L → List Value → cm_S → cm_K → Prop
def cm_sh (K : cm_K) (k : Nat) : cm_K := fun r S k2 => K r S (k + k2)
/-- where an exception of a call goes -/
def cm_xq (b : am_Bf) (hh : List (Nat × Nat × Nat × Nat)) (W : cm_W) (pc : Nat) (L : am_L) (K : cm_K) (S : cm_S) (k e : Nat) : Prop := match am_catch hh pc e with
  | none => K (.inr e) S k
  | some t => match am_hs (b t) with
    | some (j, n) => cond (Nat.blt j L.length) (W (t + n) ((am_kill L j).set j none) [] S (cm_sh K k)) False
    | none => False
def cm_xk (b : am_Bf) (hh : List (Nat × Nat × Nat × Nat)) (W : cm_W) (pc : Nat) (L : am_L) (K : cm_K) (S : cm_S) (k e : Nat) : Prop := match hh with
  | [] => K (.inr e) S k
  | _ => e < 3 ∧ (e = 0 → cm_xq b hh W pc L K S k 0) ∧ (e = 1 → cm_xq b hh W pc L K S k 1) ∧ (e = 2 → cm_xq b hh W pc L K S k 2)
theorem cm_xk_q {b : am_Bf} {hh : List (Nat × Nat × Nat × Nat)} {W : cm_W} {pc : Nat} {L : am_L} {K : cm_K} {S : cm_S} {k e : Nat} (hne : ¬ hh = []) (h : cm_xk b hh W pc L K S k e) : cm_xq b hh W pc L K S k e := by
  unfold cm_xk at h
  split at h
  · exact absurd rfl hne
  · obtain ⟨h1, h2, h3, h4⟩ := h
    match e, h1, h2, h3, h4 with
    | 0, _, h2, _, _ => exact h2 rfl
    | 1, _, _, h3, _ => exact h3 rfl
    | 2, _, _, _, h4 => exact h4 rfl
abbrev cm_P : Type := Nat → Nat → Nat → am_L → List Value → cm_S → cm_K → Prop
def cm_call (P : cm_P) (d2 y2 nL : Nat) (b : am_Bf) (hh : List (Nat × Nat × Nat × Nat)) (W : cm_W) (pc : Nat) (L : am_L) (as rest : List Value) (S : cm_S) (K : cm_K) : Nat → Prop
  | 0 => P d2 y2 0 (am_en nL as) [] S (fun r S2 k => cm_r0 (W (pc + 3) L rest S2 (cm_sh K k)) (fun e => cm_xk b hh W pc L K S2 k e) r)
  | 1 => P d2 y2 0 (am_en nL as) [] S (fun r S2 k => cm_r1 (fun x => W (pc + 3) L (.int x :: rest) S2 (cm_sh K k)) (fun e => cm_xk b hh W pc L K S2 k e) r)
  | _ => P d2 y2 0 (am_en nL as) [] S (fun r S2 k => cm_r2 (fun x => W (pc + 3) L (.long x :: rest) S2 (cm_sh K k)) (fun e => cm_xk b hh W pc L K S2 k e) r)
/-- one instruction at depth d2 + 1 -/
def cm_st (P : cm_P) (X : am_Xs) (d2 : Nat) (b : am_Bf) (hh : List (Nat × Nat × Nat × Nat)) (W : cm_W) (pc : Nat) (L : am_L) (st : List Value) (S : cm_S) (K : cm_K) : Prop := match b pc with
  | some (0, i, n, ex) => cm_ws X ex L st S (fun L2 st2 => W (pc + n) L2 st2 S K) i
  | some (1, i, n, ex) => cm_ww ex st S (fun st2 S2 => W (pc + n) L st2 S2 K) i
  | some (2, i, n, ex) => cm_wj ex st (fun st2 t => W t L st2 S K) (pc + n) i
  | some (4, _, _, kd :: y2 :: k :: cis) => match am_TT y2 with
    | some (_, nL, _) => match Nat.ble k st.length && Nat.ble (am_sl (st.take k).reverse).length nL && (decide (((st.drop k).map Value.category).sum ≤ 8) && (cond (Nat.beq kd 0) true (cm_rc (st.take k).reverse cis))) with
      | true => cm_call P d2 y2 nL b hh W pc L (st.take k).reverse (st.drop k) S K (cm_rk y2)
      | false => False
    | none => False
  | some (5, i, _, ex) => match i, st, ex with
    | .ireturn, [.int v], [0] => K (.inl (some (.int v))) S 0
    | .ireturn, [.int v], [1] => (v = 0 ∨ v = 1) ∧ K (.inl (some (.int v))) S 0
    | .lreturn, [.long v], _ => K (.inl (some (.long v))) S 0
    | .return_, [], _ => K (.inl none) S 0
    | _, _, _ => False
  | some (6, _, _, [E]) => match hh with
    | [] => cond (decide ((st.map Value.category).sum ≤ 8)) (K (.inr E) S 1) False
    | _ => False
  | some (7, _, _, _) => match st with
    | .ref _ :: st => cond (decide ((st.map Value.category).sum ≤ 8)) (W (pc + 3) L st S K) False
    | _ => False
  | _ => False
/-- the same list, its spine built -/
def cm_nl {α : Type} : List α → (List α → Prop) → Prop
  | [], k => k []
  | a :: t, k => cm_nl t (fun t => k (a :: t))
theorem cm_nl_eq {α : Type} : ∀ (l : List α) (k : List α → Prop), cm_nl l k = k l
  | [], k => rfl
  | a :: t, k => cm_nl_eq t (fun t => k (a :: t))
def cm_np : Nat → (Nat → Prop) → Prop
  | 0, k => k 0
  | n + 1, k => k (n + 1)
theorem cm_np_eq : ∀ (n : Nat) (k : Nat → Prop), cm_np n k = k n
  | 0, k => rfl
  | n + 1, k => rfl
/-- a stretch of a method: up to the stops -/
def cm_go (P : cm_P) (X : am_Xs) (d2 y : Nat) (b : am_Bf) (hh : List (Nat × Nat × Nat × Nat)) (sp : List Nat) : Nat → cm_W
  | 0 => fun pc L st S K => P (d2 + 1) y pc L st S K
  | f + 1 => fun pc L st S K => cm_nl L fun L => cm_nl st fun st => cm_np pc fun pc => cond (am_mem pc sp) (P (d2 + 1) y pc L st S K) (cm_st P X d2 b hh (cm_go P X d2 y b hh sp f) pc L st S K)
section CM20
variable {X : am_Xs} {d y pc : Nat} {L : am_L} {st : List Value} {S : cm_S} {K : cm_K}
theorem cm_At.step {pc2 : Nat} {L2 : am_L} {st2 : List Value} {S2 : cm_S} (h : ∀ f c s, am_ev X am_df am_TT (f + 1) d y pc L st (cm_h S 0 cm_T, c, s) = am_ev X am_df am_TT f d y pc2 L2 st2 (cm_h S2 0 cm_T, c, s)) (k : cm_At X d y pc2 L2 st2 S2 K) : cm_At X d y pc L st S K := by
  obtain ⟨f, r, S3, n, h1, h2⟩ := k
  exact ⟨f + 1, r, S3, n, fun c s => by rw [h, h1], h2⟩
theorem cm_At.mono {K2 : cm_K} (h : cm_At X d y pc L st S K) (hk : ∀ r S2 k, K r S2 k → K2 r S2 k) : cm_At X d y pc L st S K2 := by
  obtain ⟨f, r, S3, n, h1, h2⟩ := h
  exact ⟨f, r, S3, n, h1, hk _ _ _ h2⟩
theorem cm_ws_ok {ex : List Nat} {i : Instr} {Q : am_L → List Value → Prop} (h : cm_ws X ex L st S Q i) : ∃ r, am_s X ex L st (cm_h S 0 cm_T) i = some r ∧ Q r.1 r.2 := by
  cases i
  case getfield idx =>
    simp only [cm_ws, cm_tf_ok] at h
    split at h
    · next k cis a st2 =>
      split at h
      · next c fs ht =>
        split at h
        · next t hm hk =>
          refine ⟨(L, cm_fv S a k t :: st2), ?_, cm_gf_ok h⟩
          simp only [am_s]
          rw [cm_h_get, ht, Nat.zero_add]
          simp only [Option.map_some, cm_e]
          rw [cm_fl_get, hk, hm, Nat.zero_add]
          rfl
        · cases h
      · cases h
    · cases h
  case arraylength =>
    simp only [cm_ws, cm_tf_ok] at h
    split at h
    · next a st2 =>
      simp only [am_s]
      rw [cm_h_get, Nat.zero_add]
      split at h
      · next n ht => rw [ht]; exact ⟨_, rfl, h⟩
      · next n ht => rw [ht]; exact ⟨_, rfl, h⟩
      · next n ht => rw [ht]; exact ⟨_, rfl, h⟩
      · next ht =>
        rw [ht]
        split at h
        · next n f hx =>
          simp only [Option.map_none, hx]
          exact ⟨_, rfl, h⟩
        · cases h
      · cases h
    · cases h
  case iaload =>
    simp only [cm_ws, cm_tf_ok] at h
    split at h
    · next i a st2 =>
      simp only [am_s, am_arI]
      rw [cm_h_get, Nat.zero_add]
      split at h
      · next n ht =>
        rw [ht]
        simp only [Option.map_some, cm_e]
        rw [if_pos h.1]
        exact ⟨_, rfl, h.2 _ rfl⟩
      · next ht =>
        rw [ht]
        split at h
        · next n f hx =>
          simp only [Option.map_none, hx]
          rw [if_pos h.1]
          exact ⟨_, rfl, h.2 _ rfl⟩
        · cases h
      · cases h
    · cases h
  case laload =>
    simp only [cm_ws, cm_tf_ok] at h
    split at h
    · next i a st2 =>
      simp only [am_s]
      rw [cm_h_get, Nat.zero_add]
      split at h
      · next n ht =>
        rw [ht]
        simp only [Option.map_some, cm_e]
        rw [if_pos h.1]
        exact ⟨_, rfl, h.2 _ rfl⟩
      · cases h
    · cases h
  case baload =>
    simp only [cm_ws, cm_tf_ok] at h
    split at h
    · next i a st2 =>
      simp only [am_s]
      rw [cm_h_get, Nat.zero_add]
      split at h
      · next n ht =>
        rw [ht]
        simp only [Option.map_some, cm_e]
        rw [if_pos h.1]
        exact ⟨_, rfl, h.2 _ rfl⟩
      · cases h
    · cases h
  case idiv =>
    simp only [cm_ws, cm_tf_ok] at h
    split at h
    · simp only [am_s]
      rw [if_neg h.1]
      exact ⟨_, rfl, h.2⟩
    · cases h
  case irem =>
    simp only [cm_ws, cm_tf_ok] at h
    split at h
    · simp only [am_s]
      rw [if_neg h.1]
      exact ⟨_, rfl, h.2⟩
    · cases h
  all_goals
    simp only [cm_ws] at h
    split at h
    · next r hr => exact ⟨r, hr, h⟩
    · cases h
theorem cm_ww_ok {ex : List Nat} {i : Instr} {Q : List Value → cm_S → Prop} (h : cm_ww ex st S Q i) : ∃ st2 S2, am_w ex st (cm_h S 0 cm_T) i = some (st2, cm_h S2 0 cm_T) ∧ Q st2 S2 := by
  cases i
  case iastore =>
    simp only [cm_ww, cm_tf_ok] at h
    split at h
    · next x i a st2 =>
      simp only [am_w]
      rw [cm_h_get, Nat.zero_add]
      split at h
      · next n ht =>
        rw [ht]
        simp only [Option.map_some, cm_e]
        rw [if_pos h.1]
        exact ⟨st2, _, by rw [cm_setI (by decide) ht], h.2 _ rfl⟩
      · cases h
    · cases h
  case lastore =>
    simp only [cm_ww, cm_tf_ok] at h
    split at h
    · next x i a st2 =>
      simp only [am_w]
      rw [cm_h_get, Nat.zero_add]
      split at h
      · next n ht =>
        rw [ht]
        simp only [Option.map_some, cm_e]
        rw [if_pos h.1]
        exact ⟨st2, _, by rw [cm_setJ ht], h.2 _ rfl⟩
      · cases h
    · cases h
  case bastore =>
    simp only [cm_ww, cm_tf_ok] at h
    split at h
    · next x i a st2 =>
      simp only [am_w]
      rw [cm_h_get, Nat.zero_add]
      split at h
      · next n ht =>
        rw [ht]
        simp only [Option.map_some, cm_e]
        rw [if_pos h.1]
        exact ⟨st2, _, by rw [cm_setI (by decide) ht], h.2 _ rfl⟩
      · cases h
    · cases h
  case putfield idx =>
    simp only [cm_ww, cm_tf_ok] at h
    split at h
    · next k ty cis v a st2 =>
      simp only [am_w]
      rw [cm_h_get, Nat.zero_add]
      split at h
      · next c fs ht =>
        rw [ht]
        simp only [Option.map_some, cm_e]
        have hl : ∀ t, fs[k]? = some t → decide (k < (cm_fl S a 0 fs).length) = true := fun t hk => by
          rw [cm_fl_len]
          exact decide_eq_true (List.getElem?_eq_some_iff.mp hk).1
        split at h
        · next x hm hk =>
          rw [hm, hl _ hk]
          exact ⟨st2, _, by simp only []; rw [cm_setF ht hk], h _ rfl⟩
        · next x hm hk =>
          rw [hm, hl _ hk]
          exact ⟨st2, _, by simp only []; rw [cm_setG ht hk], h _ rfl⟩
        · next x hm hk =>
          rw [hm, hl _ hk]
          exact ⟨st2, _, by simp only []; rw [if_pos h.1, cm_setF ht hk], h.2 _ rfl⟩
        · cases h
      · cases h
    · cases h
  all_goals
    simp only [cm_ww] at h
theorem cm_ic_ok {c : Jvm.ClassFile.Cond} {x y : Int32} {P : Nat → Prop} {t n : Nat} (h : cm_ic c x y (P t) (P n)) : P (if am_ic c x y = true then t else n) := by
  unfold am_ic
  cases c <;> simp only [cm_ic] at h <;> simp only [decide_eq_true_eq]
  · by_cases hc : x = y
    · rw [if_pos hc]; exact h.1 hc
    · rw [if_neg hc]; exact h.2 hc
  · by_cases hc : x = y
    · rw [if_neg (fun g => g hc)]; exact h.1 hc
    · rw [if_pos hc]; exact h.2 hc
  · by_cases hc : x < y
    · rw [if_pos hc]; exact h.1 hc
    · rw [if_neg hc]; exact h.2 hc
  · by_cases hc : x < y
    · rw [if_neg (fun g => Int32.not_lt.mpr g hc)]; exact h.1 hc
    · rw [if_pos (Int32.not_lt.mp hc)]; exact h.2 hc
  · by_cases hc : y < x
    · rw [if_pos hc]; exact h.1 hc
    · rw [if_neg hc]; exact h.2 hc
  · by_cases hc : y < x
    · rw [if_neg (fun g => Int32.not_lt.mpr g hc)]; exact h.1 hc
    · rw [if_pos (Int32.not_lt.mp hc)]; exact h.2 hc
theorem cm_sw_t {W : Nat → Prop} {x : Int} {d : Nat} : ∀ {ts : List Nat} {lo : Int}, cm_sw W x d (cm_ks lo ts) ts → (x < lo ∨ lo + (ts.length : Int) ≤ x → W d) ∧ ∀ (j t : Nat), ts[j]? = some t → x = lo + (j : Int) → W t
  | [], lo, h => ⟨fun _ => h, fun j t hj => by simp at hj⟩
  | t0 :: ts, lo, h => by
    obtain ⟨h1, h2⟩ := h
    refine ⟨fun hx => ?_, fun j t hj hx => ?_⟩
    · rw [List.length_cons] at hx
      exact (cm_sw_t (h2 (by omega))).1 (by omega)
    · rcases j with _ | j
      · cases hj
        exact h1 (by omega)
      · exact (cm_sw_t (h2 (by omega))).2 j t hj (by omega)
theorem cm_sw_l {W : Nat → Prop} {x : Int} {d : Nat} : ∀ {ps : List (Int × Int)} {ts : List Nat}, cm_sw W x d (ps.map Prod.fst) ts → W (am_look ps x ts d)
  | [], _, h => by unfold am_look; unfold cm_sw at h; exact h
  | (k, o) :: ps, [], h => by unfold am_look; unfold cm_sw at h; exact h
  | (k, o) :: ps, t :: ts, h => by
    obtain ⟨h1, h2⟩ := h
    unfold am_look
    by_cases hx : x = k
    · rw [if_pos hx]; exact h1 hx
    · rw [if_neg hx]; exact cm_sw_l (h2 hx)
theorem cm_wj_ok {ex : List Nat} {i : Instr} {nx : Nat} {Q : List Value → Nat → Prop} (h : cm_wj ex st Q nx i) : ∃ st2 t, am_j ex st nx i = some (st2, t) ∧ Q st2 t := by
  cases i
  case goto off =>
    simp only [cm_wj] at h
    split at h
    · exact ⟨_, _, rfl, h⟩
    · cases h
  case ifCond c off =>
    simp only [cm_wj] at h
    split at h
    · exact ⟨_, _, rfl, cm_ic_ok h⟩
    · cases h
  case if_icmp c off =>
    simp only [cm_wj] at h
    split at h
    · exact ⟨_, _, rfl, cm_ic_ok h⟩
    · cases h
  case tableswitch dd lo hi os =>
    simp only [cm_wj] at h
    split at h
    · next d ts x st2 =>
      cases hb : decide (hi + 1 = lo + (ts.length : Int)) with
      | false => rw [hb] at h; cases h
      | true =>
        rw [hb] at h
        have hb := of_decide_eq_true hb
        obtain ⟨h1, h2⟩ := cm_sw_t h
        simp only [am_j]
        by_cases hx : x.toInt < lo ∨ hi < x.toInt
        · rw [if_pos hx]
          exact ⟨_, _, rfl, h1 (by omega)⟩
        · rw [if_neg hx]
          have hlt : (x.toInt - lo).toNat < ts.length := by omega
          rw [List.getElem?_eq_getElem hlt]
          exact ⟨_, _, rfl, h2 (x.toInt - lo).toNat _ (List.getElem?_eq_getElem hlt) (by omega)⟩
    · cases h
  case lookupswitch dd ps =>
    simp only [cm_wj] at h
    split at h
    · exact ⟨_, _, rfl, cm_sw_l h⟩
    · cases h
  all_goals
    simp only [cm_wj] at h
theorem am_ev_s {X : am_Xs} {df : am_Df} {T : am_T} {f d y pc : Nat} {L : am_L} {st : List Value} {u : am_M} : am_ev X df T (f + 1) d y pc L st u = (match T y with
    | none => none
    | some (B, _, hh) => match am_at B pc with
      | some (0, i, n, ex) => match am_s X ex L st u.1 i with
        | some r => am_ev X df T f d y (pc + n) r.1 r.2 u
        | none => none
      | some (1, i, n, ex) => match am_w ex st u.1 i with
        | some r => am_ev X df T f d y (pc + n) L r.1 (r.2, u.2)
        | none => none
      | some (2, i, n, ex) => match am_j ex st (pc + n) i with
        | some r => am_ev X df T f d y r.2 L r.1 u
        | none => none
      | some (3, i, n, ex) => match am_n df ex L st u i with
        | some r => am_ev X df T f d y (pc + n) L r.1 r.2
        | none => none
      | some (4, _, _, kd :: y2 :: k :: cis) => match d, T y2 with
        | d2 + 1, some (_, nL, _) => match Nat.ble k st.length && Nat.ble (am_sl (st.take k).reverse).length nL && (decide (((st.drop k).map Value.category).sum ≤ 8) && (cond (Nat.beq kd 0) true (am_rc (st.take k).reverse u.1 cis))) with
          | true => match am_ev X df T f d2 y2 0 (am_en nL (st.take k).reverse) [] u with
            | some (.inl v, u2) => cond (Nat.beq u2.1.length u.1.length || am_sc u.1.length L (st.drop k) []) (am_ev X df T f d y (pc + 3) L (v.toList ++ st.drop k) u2) none
            | some (.inr E, u2) => match am_catch hh pc E with
              | none => some (.inr E, u2)
              | some t => match am_hs (am_at B t) with
                | some (j, n) => cond ((Nat.beq u2.1.length u.1.length || am_sc u.1.length L [] []) && Nat.blt j L.length) (am_ev X df T f d y (t + n) ((am_kill L j).set j none) [] u2) none
                | none => none
            | none => none
          | false => none
        | _, _ => none
      | some (5, i, _, ex) => match i, st, ex with
        | .ireturn, [.int v], [0] => some (.inl (some (.int v)), u)
        | .ireturn, [.int v], [1] => if v = 0 ∨ v = 1 then some (.inl (some (.int v)), u) else none
        | .lreturn, [.long v], _ => some (.inl (some (.long v)), u)
        | .return_, [], _ => some (.inl none, u)
        | _, _, _ => none
      | some (6, _, _, [E]) => match hh with
        | [] => if (st.map Value.category).sum ≤ 8 then some (.inr E, (u.1, u.2.1 + 1, u.2.2 + 6)) else none
        | _ => none
      | some (7, _, _, _) => match st with
        | .ref _ :: st => if (st.map Value.category).sum ≤ 8 then am_ev X df T f d y (pc + 3) L st u else none
        | _ => none
      | _ => none) := rfl
theorem cm_len : ∀ {S S2 : cm_S}, Nat.beq (cm_h S2 0 cm_T).length (cm_h S 0 cm_T).length = true := by
  intro S S2
  rw [cm_h_len, cm_h_len]
  exact Nat.beq_refl _
theorem cm_rc_ok {as : List Value} {cis : List Nat} (h : cm_rc as cis = true) : am_rc as (cm_h S 0 cm_T) cis = true := by
  unfold cm_rc at h
  simp only [cm_tf_ok] at h
  split at h
  · next a t =>
    split at h
    · next c fs ht =>
      unfold am_rc
      simp only []
      rw [cm_h_get, ht, Nat.zero_add]
      exact h
    · cases h
  · cases h
theorem cm_rk_of {X : am_Xs} {d2 y2 nL : Nat} {B : am_Bf} {hh : List (Nat × Nat × Nat × Nat)} {W : cm_W} {as rest : List Value} {k : Nat} (h : cm_call (cm_At X) d2 y2 nL B hh W pc L as rest S K k) :
    cm_At X d2 y2 0 (am_en nL as) [] S (fun r S2 n => (∃ v, r = .inl v ∧ W (pc + 3) L (v.toList ++ rest) S2 (cm_sh K n)) ∨ ∃ e, r = .inr e ∧ cm_xk B hh W pc L K S2 n e) := by
  unfold cm_call at h
  split at h
  · refine h.mono fun r S2 n hr => ?_
    unfold cm_r0 at hr
    split at hr
    · exact Or.inl ⟨_, rfl, hr⟩
    · cases hr
    · exact Or.inr ⟨_, rfl, hr⟩
  · refine h.mono fun r S2 n hr => ?_
    unfold cm_r1 at hr
    split at hr
    · exact Or.inl ⟨_, rfl, hr⟩
    · cases hr
    · exact Or.inr ⟨_, rfl, hr⟩
  · refine h.mono fun r S2 n hr => ?_
    unfold cm_r2 at hr
    split at hr
    · exact Or.inl ⟨_, rfl, hr⟩
    · cases hr
    · exact Or.inr ⟨_, rfl, hr⟩
theorem cm_st_ok {d2 : Nat} {B : am_B} {nB : Nat} {hh : List (Nat × Nat × Nat × Nat)} {W : cm_W} (hT : am_TT y = some (B, nB, hh)) (hW : ∀ pc L st S K, W pc L st S K → cm_At X (d2 + 1) y pc L st S K) (h : cm_st (cm_At X) X d2 (am_at B) hh W pc L st S K) : cm_At X (d2 + 1) y pc L st S K := by
  unfold cm_st at h
  split at h
  · next i n ex hB =>
    obtain ⟨r, h1, h2⟩ := cm_ws_ok h
    refine cm_At.step (fun f c s => ?_) (hW _ _ _ _ _ h2)
    rw [am_ev_s]
    simp only [hT, hB, h1]
  · next i n ex hB =>
    obtain ⟨st2, S2, h1, h2⟩ := cm_ww_ok h
    refine cm_At.step (fun f c s => ?_) (hW _ _ _ _ _ h2)
    rw [am_ev_s]
    simp only [hT, hB, h1]
  · next i n ex hB =>
    obtain ⟨st2, t, h1, h2⟩ := cm_wj_ok h
    refine cm_At.step (fun f c s => ?_) (hW _ _ _ _ _ h2)
    rw [am_ev_s]
    simp only [hT, hB, h1]
  · next a1 a2 kd y2 k cis hB =>
    split at h
    · next b1 nL b2 hT2 =>
      split at h
      · next hc =>
        obtain ⟨f, r, S2, n, h1, h2⟩ := cm_rk_of h
        simp only [Bool.and_eq_true] at hc
        obtain ⟨⟨hc1, hc2⟩, hc3, hc4⟩ := hc
        have hcc : ∀ c s, (Nat.ble k st.length && Nat.ble (am_sl (st.take k).reverse).length nL && (decide (((st.drop k).map Value.category).sum ≤ 8) && (cond (Nat.beq kd 0) true (am_rc (st.take k).reverse ((cm_h S 0 cm_T, c, s) : am_M).1 cis)))) = true := fun c s => by
          have h5 : (cond (Nat.beq kd 0) true (am_rc (st.take k).reverse (cm_h S 0 cm_T) cis)) = true := by
            cases hk : Nat.beq kd 0 with
            | true => rfl
            | false =>
              rw [hk] at hc4
              exact cm_rc_ok hc4
          show (Nat.ble k st.length && Nat.ble (am_sl (st.take k).reverse).length nL && (decide (((st.drop k).map Value.category).sum ≤ 8) && (cond (Nat.beq kd 0) true (am_rc (st.take k).reverse (cm_h S 0 cm_T) cis)))) = true
          rw [hc1, hc2, hc3, h5]
          rfl
        rcases h2 with ⟨v, rfl, h2⟩ | ⟨e, rfl, h2⟩
        · obtain ⟨g, r3, S3, n3, h3, h4⟩ := hW _ _ _ _ _ h2
          refine ⟨max f g + 1, r3, S3, n + n3, fun c s => ?_, h4⟩
          rw [am_ev_s]
          simp only [hT, hB, hT2]
          rw [hcc c s]
          simp only []
          rw [am_fuel _ _ _ _ _ _ _ _ _ _ _ (h1 c s) _ (Nat.le_max_left f g)]
          simp only []
          rw [show (Nat.beq (cm_h S2 0 cm_T).length (cm_h S 0 cm_T).length || am_sc (cm_h S 0 cm_T).length L (st.drop k) []) = true by rw [cm_len, Bool.true_or]]
          simp only [cond_true]
          rw [am_fuel _ _ _ _ _ _ _ _ _ _ _ (h3 (c + n) (s + 6 * n)) _ (Nat.le_max_right f g)]
          rw [show c + n + n3 = c + (n + n3) by omega, show s + 6 * n + 6 * n3 = s + 6 * (n + n3) by omega]
        · by_cases hne : hh = []
          · subst hne
            have h2 : K (.inr e) S2 n := h2
            refine ⟨f + 1, _, S2, n, fun c s => ?_, h2⟩
            rw [am_ev_s]
            simp only [hT, hB, hT2]
            rw [hcc c s]
            simp only []
            rw [h1 c s]
            simp only [am_catch]
          · have h2 := cm_xk_q hne h2
            unfold cm_xq at h2
            split at h2
            · next hn =>
              refine ⟨f + 1, _, S2, n, fun c s => ?_, h2⟩
              rw [am_ev_s]
              simp only [hT, hB, hT2]
              rw [hcc c s]
              simp only []
              rw [h1 c s]
              simp only [hn]
            · next t hn =>
              split at h2
              · next j n9 hs =>
                cases hb : Nat.blt j L.length with
                | false => rw [hb] at h2; cases h2
                | true =>
                  rw [hb] at h2
                  obtain ⟨g, r3, S3, n3, h3, h4⟩ := hW _ _ _ _ _ h2
                  refine ⟨max f g + 1, r3, S3, n + n3, fun c s => ?_, h4⟩
                  rw [am_ev_s]
                  simp only [hT, hB, hT2]
                  rw [hcc c s]
                  simp only []
                  rw [am_fuel _ _ _ _ _ _ _ _ _ _ _ (h1 c s) _ (Nat.le_max_left f g)]
                  simp only [hn, hs]
                  rw [show ((Nat.beq (cm_h S2 0 cm_T).length (cm_h S 0 cm_T).length || am_sc (cm_h S 0 cm_T).length L [] []) && Nat.blt j L.length) = true by rw [cm_len, Bool.true_or, hb]; rfl]
                  simp only [cond_true]
                  rw [am_fuel _ _ _ _ _ _ _ _ _ _ _ (h3 (c + n) (s + 6 * n)) _ (Nat.le_max_right f g)]
                  rw [show c + n + n3 = c + (n + n3) by omega, show s + 6 * n + 6 * n3 = s + 6 * (n + n3) by omega]
              · cases h2
      · cases h
    · cases h
  · next i n ex hB =>
    have fin : ∀ {r : am_O}, (∀ f c s, am_ev X am_df am_TT (f + 1) (d2 + 1) y pc L st (cm_h S 0 cm_T, c, s) = some (r, (cm_h S 0 cm_T, c, s))) → K r S 0 → cm_At X (d2 + 1) y pc L st S K := fun h1 h2 => ⟨0 + 1, _, S, 0, fun c s => by rw [h1]; rfl, h2⟩
    split at h
    · exact fin (fun f c s => by rw [am_ev_s]; simp only [hT, hB]) h
    · exact fin (fun f c s => by rw [am_ev_s]; simp only [hT, hB]; rw [if_pos h.1]) h.2
    · exact fin (fun f c s => by rw [am_ev_s]; simp only [hT, hB]) h
    · exact fin (fun f c s => by rw [am_ev_s]; simp only [hT, hB]) h
    · cases h
  · next a1 a2 E hB =>
    split at h
    · cases hb : decide ((st.map Value.category).sum ≤ 8) with
      | false => rw [hb] at h; cases h
      | true =>
        rw [hb] at h
        refine ⟨0 + 1, _, S, 1, fun c s => ?_, h⟩
        rw [am_ev_s]
        simp only [hT, hB]
        rw [if_pos (of_decide_eq_true hb)]
    · cases h
  · next a1 a2 a3 hB =>
    split at h
    · next a st2 =>
      cases hb : decide ((st2.map Value.category).sum ≤ 8) with
      | false => rw [hb] at h; cases h
      | true =>
        rw [hb] at h
        refine cm_At.step (fun f c s => ?_) (hW _ _ _ _ _ h)
        rw [am_ev_s]
        simp only [hT, hB]
        rw [if_pos (of_decide_eq_true hb)]
    · cases h
  · cases h
theorem cm_go_ok {d2 : Nat} {B : am_B} {nB : Nat} {hh : List (Nat × Nat × Nat × Nat)} {sp : List Nat} (hT : am_TT y = some (B, nB, hh)) : ∀ (f pc : Nat) (L : am_L) (st : List Value) (S : cm_S) (K : cm_K), cm_go (cm_At X) X d2 y (am_at B) hh sp f pc L st S K → cm_At X (d2 + 1) y pc L st S K
  | 0, pc, L, st, S, K, h => h
  | f + 1, pc, L, st, S, K, h => by
    unfold cm_go at h
    rw [cm_nl_eq, cm_nl_eq, cm_np_eq] at h
    cases hb : am_mem pc sp with
    | true => rw [hb] at h; exact h
    | false =>
      rw [hb] at h
      exact cm_st_ok hT (cm_go_ok hT f) h
/-- the first instruction may be a stop -/
theorem cm_go1 {d2 : Nat} {B : am_B} {b : am_Bf} {nB : Nat} {hh : List (Nat × Nat × Nat × Nat)} {sp : List Nat} {f : Nat} (hT : am_TT y = some (B, nB, hh)) (hb : ∀ pc, b pc = am_at B pc) (h : cm_st (cm_At X) X d2 b hh (cm_go (cm_At X) X d2 y b hh sp f) pc L st S K) : cm_At X (d2 + 1) y pc L st S K := by
  have e : b = am_at B := funext hb
  subst e
  exact cm_st_ok hT (cm_go_ok hT f) h
end CM20
/-- tables by halves are the tables -/
theorem cm_bf_ok {B : am_B} {b : am_Bf} {N : Nat} (h1 : ∀ pc, pc < N → b pc = am_at B pc) (h2 : B.all (fun e => Nat.blt e.1 N) = true) (h3 : ∀ pc, N ≤ pc → b pc = none) : ∀ pc, b pc = am_at B pc := by
  intro pc
  by_cases h : pc < N
  · exact h1 pc h
  · rw [h3 pc (by omega)]
    cases hq : am_at B pc with
    | none => rfl
    | some e =>
      have h4 := List.all_eq_true.mp h2 _ (am_at_in hq)
      have h5 : pc < N := by simpa using h4
      exact absurd h5 h
