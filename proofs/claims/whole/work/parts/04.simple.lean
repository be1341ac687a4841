/-! ## 04 the abstract machine's locals, things and simple instructions against the machine's -/
def mv (ad : Nat → Nat) : Value → Value
  | .ref i => .ref (ad i)
  | v => v
theorem mv_cat (ad : Nat → Nat) (v : Value) : (mv ad v).category = v.category := by cases v <;> rfl
def am_as (ad : Nat → Nat) (L : am_L) : List (Nat × Value) := (L.zipIdx).filterMap fun p => p.1.map fun v => (p.2, mv ad v)
theorem am_as_mem {ad : Nat → Nat} {L : am_L} {i : Nat} {w : Value} : (i, w) ∈ am_as ad L ↔ ∃ v, L[i]? = some (some v) ∧ w = mv ad v := by
  unfold am_as
  constructor
  · intro h
    obtain ⟨⟨o, j⟩, h1, h2⟩ := List.mem_filterMap.mp h
    rw [List.mk_mem_zipIdx_iff_getElem?] at h1
    cases o with
    | none => simp at h2
    | some v =>
      simp only [Option.map_some, Option.some.injEq, Prod.mk.injEq] at h2
      obtain ⟨rfl, rfl⟩ := h2
      exact ⟨v, h1, rfl⟩
  · rintro ⟨v, h1, rfl⟩
    exact List.mem_filterMap.mpr ⟨(some v, i), by rw [List.mk_mem_zipIdx_iff_getElem?]; exact h1, rfl⟩
theorem am_has_of {ls : Array Slot} {nL : Nat} {l l2 : List (Nat × Value)} (h : lv_has ls nL l) (hs : ∀ q ∈ l2, q ∈ l) : lv_has ls nL l2 := ⟨h.1, h.2.1, fun q hq => h.2.2 q (hs q hq)⟩
theorem am_lat {ls : Array Slot} {nL : Nat} {ad : Nat → Nat} {L : am_L} (h : lv_has ls nL (am_as ad L)) {i : Nat} {v : Value} (hv : L[i]? = some (some v)) : ls[i]? = some (.val (mv ad v)) := h.2.2 (i, mv ad v) (am_as_mem.mpr ⟨v, hv, rfl⟩)
theorem am_kill_get {L : am_L} {n i : Nat} {v : Value} (h : (am_kill L n)[i]? = some (some v)) : L[i]? = some (some v) ∧ ¬ (i + 1 = n ∧ v.category = 2) := by
  cases n with
  | zero => exact ⟨h, fun q => by omega⟩
  | succ k =>
    simp only [am_kill] at h
    split at h
    · next v0 h0 =>
      split at h
      · rw [List.getElem?_set] at h
        split at h
        · split at h <;> cases h
        · next hne => exact ⟨h, fun q => hne (by omega)⟩
      · next hc => exact ⟨h, fun q => by
          have e : i = k := by omega
          subst e
          rw [h0] at h
          cases h
          exact hc q.2⟩
    · next hno => exact ⟨h, fun q => by
        have e : i = k := by omega
        subst e
        exact hno v h⟩
theorem am_kill_len (L : am_L) (n : Nat) : (am_kill L n).length = L.length := by
  cases n with
  | zero => rfl
  | succ k =>
    simp only [am_kill]
    split
    · split
      · rw [List.length_set]
      · rfl
    · rfl
theorem am_set1_len (L : am_L) (n : Nat) (v : Value) : (am_set1 L n v).length = L.length := by unfold am_set1; rw [List.length_set, am_kill_len]
theorem am_set2_len (L : am_L) (n : Nat) (v : Value) : (am_set2 L n v).length = L.length := by unfold am_set2; rw [List.length_set, List.length_set, am_kill_len]
theorem am_set1_in {ad : Nat → Nat} {L : am_L} {n : Nat} {v : Value} : ∀ q ∈ am_as ad (am_set1 L n v), q ∈ (n, mv ad v) :: (am_as ad L).filter (fun q => !(q.1 == n) && !(q.1 + 1 == n && q.2.category == 2)) := by
  rintro ⟨i, w⟩ hq
  obtain ⟨v2, h1, rfl⟩ := am_as_mem.mp hq
  unfold am_set1 at h1
  rw [List.getElem?_set] at h1
  split at h1
  · next e =>
    subst e
    split at h1
    · cases h1
      exact List.mem_cons_self
    · cases h1
  · next hne =>
    obtain ⟨h2, h3⟩ := am_kill_get h1
    refine List.mem_cons_of_mem _ (List.mem_filter.mpr ⟨am_as_mem.mpr ⟨v2, h2, rfl⟩, ?_⟩)
    have a1 : (i == n) = false := by simp; exact fun e => hne e.symm
    have a2 : (i + 1 == n && (mv ad v2).category == 2) = false := by
      rw [mv_cat]
      cases hb : (i + 1 == n && v2.category == 2) with
      | false => rfl
      | true =>
        simp only [Bool.and_eq_true, beq_iff_eq] at hb
        exact absurd hb h3
    simp only [a1, a2, Bool.not_false, Bool.and_self]
theorem am_set2_in {ad : Nat → Nat} {L : am_L} {n : Nat} {v : Value} : ∀ q ∈ am_as ad (am_set2 L n v), q ∈ (n, mv ad v) :: (am_as ad L).filter (fun q => !(q.1 == n) && (!(q.1 == n + 1) && !(q.1 + 1 == n && q.2.category == 2))) := by
  rintro ⟨i, w⟩ hq
  obtain ⟨v2, h1, rfl⟩ := am_as_mem.mp hq
  unfold am_set2 at h1
  rw [List.getElem?_set] at h1
  split at h1
  · split at h1 <;> cases h1
  · next hne1 =>
    rw [List.getElem?_set] at h1
    split at h1
    · next e =>
      subst e
      split at h1
      · cases h1
        exact List.mem_cons_self
      · cases h1
    · next hne =>
      obtain ⟨h2, h3⟩ := am_kill_get h1
      refine List.mem_cons_of_mem _ (List.mem_filter.mpr ⟨am_as_mem.mpr ⟨v2, h2, rfl⟩, ?_⟩)
      have a1 : (i == n) = false := by simp; exact fun e => hne e.symm
      have a3 : (i == n + 1) = false := by simp; exact fun e => hne1 e.symm
      have a2 : (i + 1 == n && (mv ad v2).category == 2) = false := by
        rw [mv_cat]
        cases hb : (i + 1 == n && v2.category == 2) with
        | false => rfl
        | true =>
          simp only [Bool.and_eq_true, beq_iff_eq] at hb
          exact absurd hb h3
      simp only [a1, a2, a3, Bool.not_false, Bool.and_self]
/-- the things as a world of the kit -/
def me (ad : Nat → Nat) (cA : Nat → ClassId) : am_E → va_E
  | .inl (t, a) => .inl (cA t, a)
  | .inr (c, fs) => .inr (c, fs.map (mv ad))
def mw (ad : Nat → Nat) (cA : Nat → ClassId) (h : List am_E) : va_W := h.mapIdx fun i e => (ad i, me ad cA e)
theorem mw_get {ad : Nat → Nat} {cA : Nat → ClassId} {h : List am_E} {i : Nat} {e : am_E} (he : h[i]? = some e) : (mw ad cA h)[i]? = some (ad i, me ad cA e) := by
  unfold mw
  rw [List.getElem?_mapIdx, he]
  rfl
theorem mw_set (ad : Nat → Nat) (cA : Nat → ClassId) (h : List am_E) (a : Nat) (e : am_E) : (mw ad cA h).set a (ad a, me ad cA e) = mw ad cA (h.set a e) := by
  unfold mw
  refine List.ext_getElem? fun i => ?_
  rw [List.getElem?_set, List.getElem?_mapIdx, List.getElem?_mapIdx, List.getElem?_set, List.length_mapIdx]
  by_cases hi : a = i
  · subst hi
    by_cases hl : a < h.length
    · simp [hl]
    · simp [hl]
  · simp [hi]
abbrev am_tys (cA : Nat → ClassId) : List (ClassId × FieldType) := [(cA 0, .int), (cA 1, .long), (cA 2, .boolean)]
/-- a field's link and its places -/
def am_FL (args : Array Value) (s : State) (own : String) (cl : List vw_C) (Ts : List Cond) (idx k : Nat) (cis : List Nat) : Prop :=
  ∀ ci, am_mem ci cis = true → ∃ (C : String) (T : u_T) (N : Nat), cl[ci]? = some (C, T, N) ∧ k < N ∧ (∀ w ∈ u_ws C T N, w ∈ Ts) ∧
    ((Cond.fieldLink own idx (T k).1 (T k).2.1 (T k).2.2.1).before args s = true ∨ ∃ host : String, (Cond.fieldLinkNest own idx (T k).1 (T k).2.1 (T k).2.2.1 host).before args s = true)
def am_sC : String := "SpinelessHall"
def am_sN : String := "PARTS"
def am_sD : String := "[I"
/-- what the tables must say for a simple instruction -/
def am_wd (args : Array Value) (s : State) (own : String) (cl : List vw_C) (Ts : List Cond) (ex : List Nat) : Instr → Prop
  | .ldc idx => ∀ k, ex = [k] → (Jvm.Cond.constant own idx (Int32.ofNat k)).before args s = true
  | .ldc2_w idx => ∀ k, ex = [k] → (Jvm.Cond.constantLong own idx (Int64.ofNat k)).before args s = true
  | .getfield idx => ∀ k cis, ex = k :: cis → am_FL args s own cl Ts idx k cis
  | .getstatic idx => (Cond.fieldLink own idx am_sC am_sN am_sD).before args s = true ∨ ∃ host : String, (Cond.fieldLinkNest own idx am_sC am_sN am_sD host).before args s = true
  | _ => True
/-- an instruction's length -/
def am_len : Instr → Nat
  | .bipush _ => 2
  | .sipush _ => 3
  | .ldc _ => 2
  | .ldc2_w _ => 3
  | .iload _ => 2
  | .lload _ => 2
  | .aload _ => 2
  | .istore _ => 2
  | .lstore _ => 2
  | .astore _ => 2
  | .iinc _ _ => 3
  | .getfield _ => 3
  | .putfield _ => 3
  | .getstatic _ => 3
  | .goto _ => 3
  | .ifCond _ _ => 3
  | .if_icmp _ _ => 3
  | .new _ => 3
  | .newarray _ => 2
  | .invokevirtual _ => 3
  | .invokespecial _ => 3
  | .invokestatic _ => 3
  | _ => 1
/-- a row of ints that no method of the system writes -/
def am_Xt (b L : Nat) (xs : Nat → Int32) (U : State) (H : Heap) : Prop := ∃ scr : Cell, H[b]? = some scr ∧ U.isArrayOf scr .int ∧ scr.vm ≠ .unknown ∧ L ≤ scr.slots.size ∧ scr.slots.size.toInt32 = Int32.ofNat L ∧ ∀ j : Nat, j < L → scr.slots[j]? = some (.int (xs j))
theorem am_Xt.kept {b L : Nat} {xs : Nat → Int32} {U : State} {H H1 : Heap} (h : am_Xt b L xs U H) (hq : H1[b]? = H[b]?) : am_Xt b L xs U H1 := by
  obtain ⟨scr, h1, h2⟩ := h
  exact ⟨scr, by rw [hq]; exact h1, h2⟩
theorem am_Xt.moved {b L : Nat} {xs : Nat → Int32} {u U : State} {H : Heap} (hvm : u.vm.Alike U.vm) (h : am_Xt b L xs u H) : am_Xt b L xs U H := by
  obtain ⟨scr, h1, h2, h3⟩ := h
  exact ⟨scr, h1, State.isArrayOf_alike hvm h2, h3⟩
theorem am_Xt.of {b L : Nat} {xs : Nat → Int32} {U : State} {H : Heap} (h : va_X b L xs U H) : am_Xt b L xs U H := by
  obtain ⟨scr, h1, h2, h3, h4, h5⟩ := h
  exact ⟨scr, h1, h2, h3, Nat.le_of_eq h4.symm, by rw [h4] <;> rfl, h5⟩
section AM4
variable {p : Program} {l : Launch} {e : Env} {R : Room} {s : State} {m : MethodId} {args : Array Value} {below : List Frame} {meth : Method} {c : Code} {H : Heap} {locs : List Loc} {cells slots : Nat} {Q : State → Prop}
variable {cc : ByteArray} {pc : Nat} {ls : Array Slot} {D : va_G} {cl : List vw_C} {A : Nat → Prop} {ad : Nat → Nat} {cA : Nat → ClassId} {nL : Nat} {own : String} {Ts : List Cond}
variable {X : am_Xs} {ex : List Nat} {L L2 : am_L} {st st2 : List Value} {h : List am_E}
set_option maxHeartbeats 4000000 in
set_option maxRecDepth 100000 in
theorem am_s_ok {i : Instr} (hs : am_s X ex L st h i = some (L2, st2)) (hx : p.tables.exec = Jvm.exec) (hb : c.code = cc) (hts : ∀ w ∈ Ts, w.before args s = true) (hown : s.vm.findClass own = some m.cls)
    (hw : am_wd args s own cl Ts ex i) (hK : va_K D cl (am_tys cA) s) (hP : va_P D cl (mw ad cA h) H) (hS : va_S A s.heap H locs)
    (hX : ∀ a n f, X a = some (n, f) → am_Xt (ad a) n f s s.heap ∧ ad a < s.heap.size ∧ ¬ A (ad a)) (hZ : va_Z am_sC am_sN am_sD (.ref (ad (am_EX + 1))) A s s.heap)
    (hl : lv_has ls nL (am_as ad L)) (hn : L.length = nL) (hd : decode cc pc = .ok (i, am_len i))
    (k : ∀ ls2 : Array Slot, lv_has ls2 nL (am_as ad L2) → L2.length = nL → W p l e R s m args below meth c H locs cells slots Q (F0 m (pc + am_len i) ls2 (st2.map (mv ad)))) : W p l e R s m args below meth c H locs cells slots Q (F0 m pc ls (st.map (mv ad))) := by
  cases i
  case iconst n =>
    cases hs
    exact lv_iconst hx hb hd rfl (k ls hl hn)
  case bipush n =>
    cases hs
    exact lv_bipush hx hb hd rfl (k ls hl hn)
  case sipush n =>
    cases hs
    exact lv_sipush hx hb hd rfl (k ls hl hn)
  case lconst n =>
    cases hs
    exact lv_lconst hx hb hd rfl (k ls hl hn)
  case ldc idx =>
    simp only [am_s] at hs
    split at hs
    · cases hs
      exact lv_ldc hx hb hown (hw _ rfl) hd (k ls hl hn)
    · cases hs
  case ldc2_w idx =>
    simp only [am_s] at hs
    split at hs
    · cases hs
      exact lv_ldc2 hx hb hown (hw _ rfl) hd (k ls hl hn)
    · cases hs
  case iload n =>
    have hs : am_ldI L n st = some (L2, st2) := hs
    unfold am_ldI at hs
    split at hs
    · next x hx2 =>
      cases hs
      exact lv_iload hx hb hd (am_lat hl hx2) (k ls hl hn)
    · cases hs
  case iload_n n =>
    have hs : am_ldI L n st = some (L2, st2) := hs
    unfold am_ldI at hs
    split at hs
    · next x hx2 =>
      cases hs
      exact lv_iload_n hx hb hd rfl (am_lat hl hx2) (k ls hl hn)
    · cases hs
  case lload n =>
    have hs : am_ldJ L n st = some (L2, st2) := hs
    unfold am_ldJ at hs
    split at hs
    · next x hx2 =>
      cases hs
      exact lv_lload hx hb hd (am_lat hl hx2) (k ls hl hn)
    · cases hs
  case lload_n n =>
    have hs : am_ldJ L n st = some (L2, st2) := hs
    unfold am_ldJ at hs
    split at hs
    · next x hx2 =>
      cases hs
      exact lv_lload_n hx hb hd rfl (am_lat hl hx2) (k ls hl hn)
    · cases hs
  case aload n =>
    have hs : am_ldA L n st = some (L2, st2) := hs
    unfold am_ldA at hs
    split at hs
    · next x hx2 =>
      cases hs
      exact lv_aload hx hb hd (am_lat hl hx2) (k ls hl hn)
    · cases hs
  case aload_n n =>
    have hs : am_ldA L n st = some (L2, st2) := hs
    unfold am_ldA at hs
    split at hs
    · next x hx2 =>
      cases hs
      exact lv_aload_n hx hb hd rfl (am_lat hl hx2) (k ls hl hn)
    · cases hs
  case istore n =>
    have hs : am_stI L n st = some (L2, st2) := hs
    unfold am_stI at hs
    split at hs
    · split at hs
      · next hlt =>
        cases hs
        exact lv_istore hx hb hd hl (by rw [← hn]; exact hlt) rfl (fun ls2 h2 => k ls2 (am_has_of h2 am_set1_in) (by rw [am_set1_len]; exact hn))
      · cases hs
    · cases hs
  case istore_n n =>
    have hs : am_stI L n st = some (L2, st2) := hs
    unfold am_stI at hs
    split at hs
    · split at hs
      · next hlt =>
        cases hs
        exact lv_istore_n hx hb hd rfl hl (by rw [← hn]; exact hlt) rfl (fun ls2 h2 => k ls2 (am_has_of h2 am_set1_in) (by rw [am_set1_len]; exact hn))
      · cases hs
    · cases hs
  case astore n =>
    have hs : am_stA L n st = some (L2, st2) := hs
    unfold am_stA at hs
    split at hs
    · split at hs
      · next hlt =>
        cases hs
        exact lv_astore hx hb hd hl (by rw [← hn]; exact hlt) rfl (fun ls2 h2 => k ls2 (am_has_of h2 am_set1_in) (by rw [am_set1_len]; exact hn))
      · cases hs
    · cases hs
  case astore_n n =>
    have hs : am_stA L n st = some (L2, st2) := hs
    unfold am_stA at hs
    split at hs
    · split at hs
      · next hlt =>
        cases hs
        exact lv_astore_n hx hb hd rfl hl (by rw [← hn]; exact hlt) rfl (fun ls2 h2 => k ls2 (am_has_of h2 am_set1_in) (by rw [am_set1_len]; exact hn))
      · cases hs
    · cases hs
  case lstore n =>
    have hs : am_stJ L n st = some (L2, st2) := hs
    unfold am_stJ at hs
    split at hs
    · split at hs
      · next hlt =>
        cases hs
        exact lv_lstore hx hb hd hl (by rw [← hn]; exact hlt) rfl (fun ls2 h2 => k ls2 (am_has_of h2 am_set2_in) (by rw [am_set2_len]; exact hn))
      · cases hs
    · cases hs
  case lstore_n n =>
    have hs : am_stJ L n st = some (L2, st2) := hs
    unfold am_stJ at hs
    split at hs
    · split at hs
      · next hlt =>
        cases hs
        exact lv_lstore_n hx hb hd rfl hl (by rw [← hn]; exact hlt) rfl (fun ls2 h2 => k ls2 (am_has_of h2 am_set2_in) (by rw [am_set2_len]; exact hn))
      · cases hs
    · cases hs
  case iinc n q =>
    simp only [am_s] at hs
    split at hs
    · next x hx2 =>
      cases hs
      have hm : (n, Value.int x) ∈ am_as ad L := am_as_mem.mpr ⟨.int x, hx2, rfl⟩
      obtain ⟨k0, hk0⟩ := List.getElem?_of_mem hm
      have hlt : n < nL := by rw [← hn]; exact (List.getElem?_eq_some_iff.mp hx2).1
      exact lv_iinc hx hb hd hl hk0 rfl hlt rfl (fun ls2 h2 => k ls2 (am_has_of h2 am_set1_in) (by rw [am_set1_len]; exact hn))
    · cases hs
  case dup =>
    simp only [am_s] at hs
    split at hs
    · split at hs
      · next hc =>
        cases hs
        exact lv_dup hx hb hd (by rw [mv_cat]; exact hc) (k ls hl hn)
      · cases hs
    · cases hs
  case dup2 =>
    simp only [am_s] at hs
    split at hs
    · split at hs
      · next hc =>
        cases hs
        exact lv_dup2_11 hx hb hd (by rw [mv_cat]; exact hc.1) (by rw [mv_cat]; exact hc.2) (k ls hl hn)
      · cases hs
    · cases hs
  case pop =>
    simp only [am_s] at hs
    split at hs
    · split at hs
      · next hc =>
        cases hs
        exact lv_pop hx hb hd (by rw [mv_cat]; exact hc) (k ls hl hn)
      · cases hs
    · cases hs
  case iadd =>
    have hs : am_bin st (fun x y => x + y) L = some (L2, st2) := hs
    unfold am_bin at hs
    split at hs
    · cases hs
      exact lv_iadd hx hb hd (k ls hl hn)
    · cases hs
  case isub =>
    have hs : am_bin st (fun x y => x - y) L = some (L2, st2) := hs
    unfold am_bin at hs
    split at hs
    · cases hs
      exact lv_isub hx hb hd (k ls hl hn)
    · cases hs
  case imul =>
    have hs : am_bin st (fun x y => x * y) L = some (L2, st2) := hs
    unfold am_bin at hs
    split at hs
    · cases hs
      exact lv_imul hx hb hd (k ls hl hn)
    · cases hs
  case iand =>
    have hs : am_bin st (fun x y => x &&& y) L = some (L2, st2) := hs
    unfold am_bin at hs
    split at hs
    · cases hs
      exact lv_iand hx hb hd (k ls hl hn)
    · cases hs
  case ior =>
    have hs : am_bin st (fun x y => x ||| y) L = some (L2, st2) := hs
    unfold am_bin at hs
    split at hs
    · cases hs
      exact lv_ior hx hb hd (k ls hl hn)
    · cases hs
  case ishl =>
    have hs : am_bin st (fun x y => x <<< (y &&& 31)) L = some (L2, st2) := hs
    unfold am_bin at hs
    split at hs
    · cases hs
      exact lv_ishl hx hb hd (k ls hl hn)
    · cases hs
  case ishr =>
    have hs : am_bin st (fun x y => x >>> (y &&& 31)) L = some (L2, st2) := hs
    unfold am_bin at hs
    split at hs
    · cases hs
      exact lv_ishr hx hb hd (k ls hl hn)
    · cases hs
  case ladd =>
    have hs : am_binJ st (fun x y => x + y) L = some (L2, st2) := hs
    unfold am_binJ at hs
    split at hs
    · cases hs
      exact lv_ladd hx hb hd (k ls hl hn)
    · cases hs
  case lsub =>
    have hs : am_binJ st (fun x y => x - y) L = some (L2, st2) := hs
    unfold am_binJ at hs
    split at hs
    · cases hs
      exact lv_lsub hx hb hd (k ls hl hn)
    · cases hs
  case lmul =>
    have hs : am_binJ st (fun x y => x * y) L = some (L2, st2) := hs
    unfold am_binJ at hs
    split at hs
    · cases hs
      exact lv_lmul hx hb hd (k ls hl hn)
    · cases hs
  case land =>
    have hs : am_binJ st (fun x y => x &&& y) L = some (L2, st2) := hs
    unfold am_binJ at hs
    split at hs
    · cases hs
      exact lv_land hx hb hd (k ls hl hn)
    · cases hs
  case lor =>
    have hs : am_binJ st (fun x y => x ||| y) L = some (L2, st2) := hs
    unfold am_binJ at hs
    split at hs
    · cases hs
      exact lv_lor hx hb hd (k ls hl hn)
    · cases hs
  case idiv =>
    simp only [am_s] at hs
    split at hs
    · split at hs
      · cases hs
      · next hne =>
        cases hs
        exact lv_idiv hx hb hd hne (k ls hl hn)
    · cases hs
  case irem =>
    simp only [am_s] at hs
    split at hs
    · split at hs
      · cases hs
      · next hne =>
        cases hs
        exact lv_irem hx hb hd hne (k ls hl hn)
    · cases hs
  case lshl =>
    simp only [am_s] at hs
    split at hs
    · cases hs
      exact lv_lshl hx hb hd rfl (k ls hl hn)
    · cases hs
  case lshr =>
    simp only [am_s] at hs
    split at hs
    · cases hs
      exact lv_lshr hx hb hd rfl (k ls hl hn)
    · cases hs
  case i2l =>
    simp only [am_s] at hs
    split at hs
    · cases hs
      exact lv_i2l hx hb hd rfl (k ls hl hn)
    · cases hs
  case l2i =>
    simp only [am_s] at hs
    split at hs
    · cases hs
      exact lv_l2i hx hb hd rfl (k ls hl hn)
    · cases hs
  case lcmp =>
    simp only [am_s] at hs
    split at hs
    · cases hs
      exact W.lcmp hx hb hd (k ls hl hn)
    · cases hs
  case getfield idx =>
    simp only [am_s] at hs
    split at hs
    · next k0 cis a st3 =>
      split at hs
      · next ci fs hh =>
        split at hs
        · next v hm hv =>
          cases hs
          obtain ⟨C, T, N, hc, hk, hin, hlink⟩ := hw k0 cis rfl ci hm
          have hv2 : (fs.map (mv ad))[k0]? = some (mv ad v) := by rw [List.getElem?_map, hv]; rfl
          rcases hlink with hlink | ⟨host, hlink⟩
          · exact va_get (D := D) (C := C) (T := T) (N := N) hx hb hts hin hown hK hP a (mw_get hh) hc k0 hk hlink (fun _ q => q) hv2 hd (k ls hl hn)
          · exact va_getN (D := D) (C := C) (T := T) (N := N) hx hb hts hin hown hK hP a (mw_get hh) hc k0 hk hlink (fun _ q => q) hv2 hd (k ls hl hn)
        · cases hs
      · cases hs
    · cases hs
  case getstatic idx =>
    cases hs
    rcases hw with hlink | ⟨host, hlink⟩
    · exact va_gets hx hb hZ hS hown hlink (fun _ q => q) hd (k ls hl hn)
    · exact va_getsN hx hb hZ hS hown hlink (fun _ q => q) hd (k ls hl hn)
  case arraylength =>
    simp only [am_s] at hs
    split at hs
    · next a st3 =>
      split at hs
      · next hh =>
        cases hs
        exact va_alen hx hb hK hP a 0 (mw_get hh) rfl rfl hd (k ls hl hn)
      · next hh =>
        cases hs
        exact va_alen hx hb hK hP a 1 (mw_get hh) rfl rfl hd (k ls hl hn)
      · next hh =>
        cases hs
        exact va_alen hx hb hK hP a 2 (mw_get hh) rfl rfl hd (k ls hl hn)
      · split at hs
        · next hh =>
          cases hs
          obtain ⟨h1, h2, h3⟩ := hX _ _ _ hh
          obtain ⟨scr, g1, g2, g3, g4, g5, g6⟩ := h1
          exact W.alen hx hb (by rw [hS.2.1 _ h2 h3]; exact g1) g2 g5 rfl rfl hd (k ls hl hn)
        · cases hs
      · cases hs
    · cases hs
  case iaload =>
    simp only [am_s] at hs
    split at hs
    · next i a st3 =>
      split at hs
      · next n f hh =>
        split at hs
        · next hin =>
          cases hs
          unfold am_arI at hh
          split at hh
          · next hh2 =>
            cases hh
            exact va_iald hx hb hK hP a 0 (mw_get hh2) rfl hin hd (k ls hl hn)
          · obtain ⟨h1, h2, h3⟩ := hX _ _ _ hh
            obtain ⟨scr, g1, g2, g3, g4, g5, g6⟩ := h1
            have hlt : i.toNatClampNeg < n := Nat.not_le.mp fun q => hin (Or.inr q)
            exact W.iald (v := .int (f i.toNatClampNeg)) hx hb (by rw [hS.2.1 _ h2 h3]; exact g1) g2 g3 (fun q => hin (q.imp id (fun z => Nat.le_trans g4 z))) (g6 _ hlt) rfl rfl hd (k ls hl hn)
          · cases hh
        · cases hs
      · cases hs
    · cases hs
  case laload =>
    simp only [am_s] at hs
    split at hs
    · next i a st3 =>
      split at hs
      · next n f hh =>
        split at hs
        · next hin =>
          cases hs
          exact va_lald hx hb hK hP a 1 (mw_get hh) rfl hin hd (k ls hl hn)
        · cases hs
      · cases hs
    · cases hs
  case baload =>
    simp only [am_s] at hs
    split at hs
    · next i a st3 =>
      split at hs
      · next n f hh =>
        split at hs
        · next hin =>
          cases hs
          exact va_zald hx hb hK hP a 2 (mw_get hh) rfl hin hd (k ls hl hn)
        · cases hs
      · cases hs
    · cases hs
  all_goals exact absurd (show (none : Option (am_L × List Value)) = some (L2, st2) from hs) (fun q => by cases q)
end AM4
