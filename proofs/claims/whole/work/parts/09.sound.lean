/-! ## 09 the abstract machine is sound -/
abbrev am_Mt : Type := Nat → Option (MethodName × ByteArray × Nat × Option FieldType × List (Nat × Nat × Nat × Nat))
def am_xn : Nat → String
  | 0 => "java/lang/IndexOutOfBoundsException"
  | 1 => "java/lang/IllegalArgumentException"
  | _ => "java/lang/IllegalStateException"
/-- what the tables must say where an exception is made and thrown -/
def am_tw (args : Array Value) (s : State) (own : String) (SR : List (String × Nat × String)) (cc : ByteArray) (pc E : Nat) : Prop :=
  E < 3 ∧ ∃ (names : List String) (ik is ic : Nat) (text : String), names.length ≤ 4 ∧ Bundle.fit (am_xn E) = true ∧ (∀ n ∈ names, Bundle.fit n = true) ∧ (Cond.classLink own ik (am_xn E)).before args s = true ∧ (Cond.initialized (am_xn E)).before args s = true ∧ (own, is, text) ∈ SR ∧
    (∀ w ∈ vx_atS own ic (am_xn E) names, w.before args s = true) ∧ (∀ w ∈ Cond.classLink own ik (am_xn E) :: Cond.initialized (am_xn E) :: vx_atS own ic (am_xn E) names, vx_ot w = true) ∧
    decode cc pc = .ok (.new ik, 3) ∧ decode cc (pc + 3) = .ok (.dup, 1) ∧ decode cc (pc + 4) = .ok (.ldc is, 2) ∧ decode cc (pc + 6) = .ok (.invokespecial ic, 3) ∧ decode cc (pc + 9) = .ok (.athrow, 1)
/-- a row of a method's table says what the method's code says, and the tables have what it needs -/
def am_ok (args : Array Value) (s : State) (own : String) (cl : List vw_C) (TB : List Cond) (SR : List (String × Nat × String)) (df : am_Df) (meth : Method) (MT : am_Mt) (T : am_T) (cc : ByteArray) (ret : Option FieldType) (pc : Nat) : am_I → Prop
  | (0, i, n, ex) => decode cc pc = .ok (i, am_len i) ∧ n = am_len i ∧ am_wd args s own cl TB ex i
  | (1, i, n, ex) => decode cc pc = .ok (i, am_len i) ∧ n = am_len i ∧ am_wf args s own cl TB meth ex i
  | (2, i, n, ex) => decode cc pc = .ok (i, n) ∧ (am_len i = n ∨ (∃ a b c d, i = .tableswitch a b c d) ∨ ∃ a b, i = .lookupswitch a b) ∧ am_jd pc ex i
  | (3, i, n, ex) => decode cc pc = .ok (i, am_len i) ∧ n = am_len i ∧ am_wn args s own cl TB df ex i
  | (4, i, _, kd :: y2 :: k :: cis) => decode cc pc = .ok (i, 3) ∧ ∃ yn b nL r2 hj B hh, MT y2 = some (yn, b, nL, r2, hj) ∧ T y2 = some (B, nL, hh) ∧ nL ≤ 40 ∧ am_cf args s own cl TB i yn b nL r2 hj k kd cis
  | (5, i, _, ex) => decode cc pc = .ok (i, 1) ∧ (i = .ireturn → ex = [0] → ret = some .int) ∧ (i = .ireturn → ex = [1] → ret = some .boolean) ∧ (i = .lreturn → ret = some .long) ∧ (i = .return_ → ret = none)
  | (6, _, _, [E]) => am_tw args s own SR cc pc E
  | (7, _, _, _) => ∃ idx, decode cc pc = .ok (.invokespecial idx, 3) ∧ (Cond.methodLink own idx Lib.objectInit).before args s = true ∧ (Cond.instanceMethod Lib.objectInit).before args s = true ∧ (Cond.code Lib.objectInit ⟨#[0xb1]⟩ 1 none).before args s = true
  | (8, i, n, _) => decode cc pc = .ok (i, n)
  | _ => True
/-- the abstract handlers are the method's -/
def am_hj (args : Array Value) (s : State) (own : String) : List (Nat × Nat × Nat × Nat) → List (Nat × Nat × Nat × Nat) → Prop
  | r :: hh, z :: hj => r.1 = z.1 ∧ r.2.1 = z.2.1 ∧ r.2.2.1 = z.2.2.1 ∧ z.2.2.2 ≠ 0 ∧ r.2.2.2 < 3 ∧ (Cond.classLink own z.2.2.2 (am_xn r.2.2.2)).before args s = true ∧ (Cond.castable (am_xn r.2.2.2) (am_xn r.2.2.2)).before args s = true ∧ am_hj args s own hh hj
  | [], [] => True
  | _, _ => False
def am_Ncs (s : State) : Prop := ∀ a b, a < 3 → b < 3 → a ≠ b → va_Nc (am_xn a) (am_xn b) s
theorem am_cov {z r : Nat × Nat × Nat × Nat} {pc E : Nat} (h1 : r.1 = z.1) (h2 : r.2.1 = z.2.1) (hb : (Nat.ble r.1 pc && (Nat.blt pc r.2.1 && Nat.beq r.2.2.2 E)) = true) : covers ⟨z.1, z.2.1, z.2.2.1, z.2.2.2⟩ pc = true ∧ r.2.2.2 = E := by
  simp only [Bool.and_eq_true, Nat.ble_eq, Nat.blt_eq, Nat.beq_eq] at hb
  refine ⟨?_, hb.2.2⟩
  simp only [covers, Bool.and_eq_true, decide_eq_true_eq]
  omega
theorem am_cov0 {args : Array Value} {s : State} {own : String} {z r : Nat × Nat × Nat × Nat} {pc E : Nat} (hN : am_Ncs s) (hE : E < 3) (h1 : r.1 = z.1) (h2 : r.2.1 = z.2.1) (h3 : z.2.2.2 ≠ 0) (h4 : r.2.2.2 < 3) (h5 : (Cond.classLink own z.2.2.2 (am_xn r.2.2.2)).before args s = true)
    (hb : (Nat.ble r.1 pc && (Nat.blt pc r.2.1 && Nat.beq r.2.2.2 E)) = false) : covers ⟨z.1, z.2.1, z.2.2.1, z.2.2.2⟩ pc = false ∨ (z.2.2.2 ≠ 0 ∧ ∃ nm : String, (Cond.classLink own z.2.2.2 nm).before args s = true ∧ va_Nc (am_xn E) nm s) := by
  by_cases he : r.2.2.2 = E
  · refine Or.inl ?_
    cases hc : covers ⟨z.1, z.2.1, z.2.2.1, z.2.2.2⟩ pc with
    | false => rfl
    | true =>
      simp only [covers, Bool.and_eq_true, decide_eq_true_eq] at hc
      have : (Nat.ble r.1 pc && (Nat.blt pc r.2.1 && Nat.beq r.2.2.2 E)) = true := by
        simp only [Bool.and_eq_true, Nat.ble_eq, Nat.blt_eq, Nat.beq_eq]
        omega
      rw [this] at hb
      cases hb
  · exact Or.inr ⟨h3, _, h5, hN E _ hE h4 (fun q => he q.symm)⟩
theorem am_catch_some {args : Array Value} {s : State} {own : String} {pc E t : Nat} (hN : am_Ncs s) (hE : E < 3) : ∀ (hh hj : List (Nat × Nat × Nat × Nat)), am_hj args s own hh hj → am_catch hh pc E = some t → ∃ (pre : List ExceptionTableEntry) (x : ExceptionTableEntry) (suf : List ExceptionTableEntry), tableOf hj = pre ++ x :: suf ∧
    (∀ z ∈ pre, covers z pc = false ∨ (z.catchType ≠ 0 ∧ ∃ nm : String, (Cond.classLink own z.catchType nm).before args s = true ∧ va_Nc (am_xn E) nm s)) ∧ covers x pc = true ∧ x.catchType ≠ 0 ∧ (Cond.classLink own x.catchType (am_xn E)).before args s = true ∧ (Cond.castable (am_xn E) (am_xn E)).before args s = true ∧ x.handlerPc = t
  | [], _, _, h => by cases h
  | r :: hh, [], h, _ => h.elim
  | r :: hh, z :: hj, h, hc => by
    obtain ⟨h1, h2, h3, h4, h5, h6, h7, h8⟩ := h
    unfold am_catch at hc
    cases hb : (Nat.ble r.1 pc && (Nat.blt pc r.2.1 && Nat.beq r.2.2.2 E)) with
    | true =>
      rw [hb] at hc
      obtain ⟨a1, rfl⟩ := am_cov h1 h2 hb
      exact ⟨[], ⟨z.1, z.2.1, z.2.2.1, z.2.2.2⟩, tableOf hj, rfl, fun _ q => (nomatch q), a1, h4, h6, h7, by rw [← h3]; exact Option.some.inj hc⟩
    | false =>
      rw [hb] at hc
      obtain ⟨pre, x, suf, q1, q2, q3⟩ := am_catch_some hN hE hh hj h8 hc
      refine ⟨⟨z.1, z.2.1, z.2.2.1, z.2.2.2⟩ :: pre, x, suf, by rw [List.cons_append, ← q1]; rfl, fun w hw => ?_, q3⟩
      rcases List.mem_cons.mp hw with rfl | hw
      · exact am_cov0 hN hE h1 h2 h4 h5 h6 hb
      · exact q2 w hw
theorem am_catch_none {args : Array Value} {s : State} {own : String} {pc E : Nat} (hN : am_Ncs s) (hE : E < 3) : ∀ (hh hj : List (Nat × Nat × Nat × Nat)), am_hj args s own hh hj → am_catch hh pc E = none →
    ∀ z ∈ tableOf hj, covers z pc = false ∨ (z.catchType ≠ 0 ∧ ∃ nm : String, (Cond.classLink own z.catchType nm).before args s = true ∧ va_Nc (am_xn E) nm s)
  | [], [], _, _ => fun _ q => (nomatch q)
  | [], _ :: _, h, _ => h.elim
  | r :: hh, [], h, _ => h.elim
  | r :: hh, z :: hj, h, hc => by
    obtain ⟨h1, h2, h3, h4, h5, h6, h7, h8⟩ := h
    unfold am_catch at hc
    cases hb : (Nat.ble r.1 pc && (Nat.blt pc r.2.1 && Nat.beq r.2.2.2 E)) with
    | true =>
      rw [hb] at hc
      cases hc
    | false =>
      rw [hb] at hc
      intro w hw
      rcases List.mem_cons.mp hw with rfl | hw
      · exact am_cov0 hN hE h1 h2 h4 h5 h6 hb
      · exact am_catch_none hN hE hh hj h8 hc w hw
/-- how the numbering of the things went on -/
def am_ag (ad ad2 : Nat → Nat) (n n2 : Nat) : Prop := (∀ i, i < n → ad2 i = ad i) ∧ (∀ i, am_EX ≤ i → ad2 i = ad i) ∧ (n2 = n → ad2 = ad)
theorem am_ag.rf {ad : Nat → Nat} {n : Nat} : am_ag ad ad n n := ⟨fun _ _ => rfl, fun _ _ => rfl, fun _ => rfl⟩
theorem am_ag.tr {ad ad1 ad2 : Nat → Nat} {n n1 n2 : Nat} (h1 : am_ag ad ad1 n n1) (h2 : am_ag ad1 ad2 n1 n2) (hn : n ≤ n1) (hn2 : n1 ≤ n2) : am_ag ad ad2 n n2 :=
  ⟨fun i hi => (h2.1 i (by omega)).trans (h1.1 i hi), fun i hi => (h2.2.1 i hi).trans (h1.2.1 i hi), fun e => by
    have e1 : n1 = n := by omega
    rw [h2.2.2 (by omega), h1.2.2 e1]⟩
theorem am_Env.ren {D : va_G} {cA : Nat → ClassId} {cl : List vw_C} {NW : List Cond} {SR NC : List (String × Nat × String)} {A : Nat → Prop} {X : am_Xs} {ad ad2 : Nat → Nat} {s : State} (hNW : ∀ w ∈ NW, am_nest w) (h2 : ∀ i, am_EX ≤ i → ad2 i = ad i)
    (h : am_Env D cA cl NW SR NC A X ad s) : am_Env D cA cl NW SR NC A X ad2 s := h.moved hNW (State.WarmedH.refl s) h2 (Nat.le_refl _) (fun _ _ _ => rfl)
/-- locals and stack under the new numbering -/
theorem am_L_ag {ad ad2 : Nat → Nat} {n n2 : Nat} {ls : Array Slot} {nL : Nat} {L : am_L} (h : am_ag ad ad2 n n2) (hl : lv_has ls nL (am_as ad L)) (hc : n2 = n ∨ am_scL n L = true) : lv_has ls nL (am_as ad2 L) := by
  rcases hc with hc | hc
  · rw [h.2.2 hc]
    exact hl
  · exact am_has_of hl (am_sc_L h.1 h.2.1 hc)
theorem am_st_ag {ad ad2 : Nat → Nat} {n n2 : Nat} {vs : List Value} (h : am_ag ad ad2 n n2) (hc : n2 = n ∨ vs.all (am_scV n) = true) : vs.map (mv ad2) = vs.map (mv ad) := by
  rcases hc with hc | hc
  · rw [h.2.2 hc]
  · exact am_sc_l h.1 h.2.1 hc
theorem am_en_args (ad : Nat → Nat) : ∀ (vs : List Value) (pre : Nat) (q : Nat × Value), (∃ v, (am_sl vs)[q.1]? = some (some v) ∧ q.2 = mv ad v) → (pre + q.1, q.2) ∈ lv_args pre (vs.map (mv ad))
  | [], pre, q, h => by
    obtain ⟨v, h1, -⟩ := h
    cases h1
  | v :: vs, pre, (i, w), h => by
    obtain ⟨v2, h1, h2⟩ := h
    dsimp only at h1 h2
    rw [List.map_cons]
    unfold lv_args
    unfold am_sl at h1
    rw [mv_cat]
    by_cases hc : v.category = 2
    · rw [if_pos hc] at h1
      rw [if_pos hc]
      rcases i with _ | _ | i
      · cases h1
        rw [h2]
        exact List.mem_cons_self
      · cases h1
      · have := am_en_args ad vs (pre + 2) (i, w) ⟨v2, h1, h2⟩
        refine List.mem_cons_of_mem _ ?_
        have e1 : pre + 2 + i = pre + (i + 1 + 1) := by omega
        rw [← e1]
        exact this
    · rw [if_neg hc] at h1
      rw [if_neg hc]
      rcases i with _ | i
      · cases h1
        rw [h2]
        exact List.mem_cons_self
      · have := am_en_args ad vs (pre + 1) (i, w) ⟨v2, h1, h2⟩
        refine List.mem_cons_of_mem _ ?_
        have e1 : pre + 1 + i = pre + (i + 1) := by omega
        rw [← e1]
        exact this
theorem am_en_in {ad : Nat → Nat} {n : Nat} {vs : List Value} : ∀ q ∈ am_as ad (am_en n vs), q ∈ lv_args 0 (vs.map (mv ad)) := by
  rintro ⟨i, w⟩ hq
  obtain ⟨v, h1, rfl⟩ := am_as_mem.mp hq
  unfold am_en at h1
  by_cases hi : i < (am_sl vs).length
  · rw [List.getElem?_append_left hi] at h1
    have := am_en_args ad vs 0 (i, mv ad v) ⟨v, h1, rfl⟩
    rw [Nat.zero_add] at this
    exact this
  · rw [List.getElem?_append_right (by omega), List.getElem?_replicate] at h1
    split at h1 <;> cases h1
theorem am_sl_len (ad : Nat → Nat) : ∀ vs : List Value, (lg_sl (vs.map (mv ad))).length = (am_sl vs).length
  | [] => rfl
  | v :: vs => by
    have ih := am_sl_len ad vs
    unfold lg_sl at ih ⊢
    rw [List.map_cons, List.flatMap_cons, List.length_append, ih, mv_cat]
    have e1 : am_sl (v :: vs) = if v.category = 2 then some v :: none :: am_sl vs else some v :: am_sl vs := rfl
    rw [e1]
    by_cases hc : v.category = 2
    · rw [if_pos hc, if_pos hc]
      simp; omega
    · rw [if_neg hc, if_neg hc]
      simp; omega
