/-! ## 06 makings: the numbering of the things goes on -/
theorem am_sc_v {ad ad2 : Nat → Nat} {n : Nat} (h1 : ∀ i, i < n → ad2 i = ad i) (h2 : ∀ i, am_EX ≤ i → ad2 i = ad i) {v : Value} (h : am_scV n v = true) : mv ad2 v = mv ad v := by
  cases v
  case ref i =>
    simp only [am_scV, Bool.or_eq_true, Nat.blt_eq, Nat.ble_eq] at h
    show Value.ref (ad2 i) = Value.ref (ad i)
    rcases h with h | h
    · rw [h1 i h]
    · rw [h2 i h]
  all_goals rfl
theorem am_sc_l {ad ad2 : Nat → Nat} {n : Nat} (h1 : ∀ i, i < n → ad2 i = ad i) (h2 : ∀ i, am_EX ≤ i → ad2 i = ad i) : ∀ {vs : List Value}, vs.all (am_scV n) = true → vs.map (mv ad2) = vs.map (mv ad)
  | [], _ => rfl
  | v :: vs, h => by
    rw [List.all_cons, Bool.and_eq_true] at h
    rw [List.map_cons, List.map_cons, am_sc_v h1 h2 h.1, am_sc_l h1 h2 h.2]
theorem am_sc_L {ad ad2 : Nat → Nat} {n : Nat} (h1 : ∀ i, i < n → ad2 i = ad i) (h2 : ∀ i, am_EX ≤ i → ad2 i = ad i) {L : am_L} (h : am_scL n L = true) : ∀ q ∈ am_as ad2 L, q ∈ am_as ad L := by
  rintro ⟨i, w⟩ hq
  obtain ⟨v, h3, rfl⟩ := am_as_mem.mp hq
  refine am_as_mem.mpr ⟨v, h3, ?_⟩
  have h4 := List.all_eq_true.mp h _ (List.mem_of_getElem? h3)
  exact am_sc_v h1 h2 h4
theorem am_sc_e {ad ad2 : Nat → Nat} {cA : Nat → ClassId} {n : Nat} (h1 : ∀ i, i < n → ad2 i = ad i) (h2 : ∀ i, am_EX ≤ i → ad2 i = ad i) {e : am_E} (h : am_scE n e = true) : me ad2 cA e = me ad cA e := by
  rcases e with ⟨t, a⟩ | ⟨ci, fs⟩
  · rfl
  · show Sum.inr (ci, fs.map (mv ad2)) = Sum.inr (ci, fs.map (mv ad))
    rw [am_sc_l h1 h2 h]
theorem am_mw_new {ad ad2 : Nat → Nat} {cA : Nat → ClassId} {h : List am_E} {q : Nat} {e : am_E} (h1 : ∀ i, i < h.length → ad2 i = ad i) (h2 : ∀ i, am_EX ≤ i → ad2 i = ad i) (hq : ad2 h.length = q) (hs : h.all (am_scE h.length) = true) : mw ad2 cA (h ++ [e]) = mw ad cA h ++ [(q, me ad2 cA e)] := by
  refine List.ext_getElem? fun i => ?_
  unfold mw
  rw [List.getElem?_mapIdx]
  by_cases hi : i < h.length
  · rw [List.getElem?_append_left hi, List.getElem?_append_left (by rw [List.length_mapIdx]; exact hi), List.getElem?_mapIdx]
    cases he : h[i]? with
    | none => rfl
    | some x =>
      have hx := List.all_eq_true.mp hs x (List.mem_of_getElem? he)
      simp only [Option.map_some]
      rw [h1 i hi, am_sc_e h1 h2 hx]
  · rw [List.getElem?_append_right (by omega), List.getElem?_append_right (by rw [List.length_mapIdx]; omega), List.length_mapIdx]
    by_cases hi2 : i = h.length
    · subst hi2
      simp [hq]
    · have e1 : ∀ {α : Type} (x : α), ([x] : List α)[i - h.length]? = none := fun x => by
        rw [List.getElem?_eq_none]
        simp; omega
      rw [e1, e1]
      rfl
def am_ad (ad : Nat → Nat) (n q : Nat) : Nat → Nat := fun i => if i = n then q else ad i
theorem am_ad_lt {ad : Nat → Nat} {n q : Nat} : ∀ i, i < n → am_ad ad n q i = ad i := fun i h => if_neg (by omega)
theorem am_ad_ge {ad : Nat → Nat} {n q : Nat} (hn : n < 1000) : ∀ i, am_EX ≤ i → am_ad ad n q i = ad i := fun i h => if_neg (by have : am_EX = 1000000 := rfl; omega)
theorem am_ad_eq {ad : Nat → Nat} {n q : Nat} : am_ad ad n q n = q := if_pos rfl
/-- what the tables must say where something is made -/
def am_wn (args : Array Value) (s : State) (own : String) (cl : List vw_C) (Ts : List Cond) (df : am_Df) (ex : List Nat) : Instr → Prop
  | .new idx => ∀ ci N, ex = [ci, N] → ∃ (C : String) (T : u_T) (ty : Nat → FieldType), cl[ci]? = some (C, T, N) ∧ (∀ w ∈ u_ws C T N, w ∈ Ts) ∧ (∀ k, k < N → parseFieldDescriptor (T k).2.2.1 = some (ty k)) ∧
      (Cond.classLink own idx C).before args s = true ∧ (Cond.instantiable C N).before args s = true ∧ (Cond.initialized C).before args s = true ∧ (∀ j, j < N → defaultValue (ty j) = vp_V (df ci) j) ∧ ∀ ad : Nat → Nat, (df ci).map (mv ad) = df ci
  | .newarray t => ∀ k, ex = [k] → (k = 0 ∧ t = .int ∨ k = 1 ∧ t = .long ∨ k = 2 ∧ t = .boolean) ∧ (Cond.arrayClass (newarray.typeOf t)).before args s = true
  | _ => True
section AM6
variable {p : Program} {l : Launch} {e : Env} {R : Room} {s : State} {m : MethodId} {args : Array Value} {below : List Frame} {meth : Method} {c : Code} {H : Heap} {locs : List Loc} {cells slots : Nat} {Q : State → Prop}
variable {cc : ByteArray} {pc : Nat} {ls : Array Slot} {D : va_G} {cl : List vw_C} {A : Nat → Prop} {ad : Nat → Nat} {cA : Nat → ClassId} {nL : Nat} {own : String} {Ts : List Cond}
variable {df : am_Df} {ex : List Nat} {L : am_L} {st st2 : List Value} {u u2 : am_M}
theorem am_newa_ok {t : Nat} {aty : ArrayType} {n : Int32} {rest : List Value} (hx : p.tables.exec = Jvm.exec) (hb : c.code = cc) (harr : (Cond.arrayClass (newarray.typeOf aty)).before args s = true)
    (ht : t = 0 ∧ aty = .int ∨ t = 1 ∧ aty = .long ∨ t = 2 ∧ aty = .boolean) (hK : va_K D cl (am_tys cA) s) {ws : va_W} (hP : va_P D cl ws H) (hD : va_D A ws) (hS : va_S A s.heap H locs) (hA : ∀ q, s.heap.size ≤ q → A q)
    (hn : ¬ n < 0) (hN : n.toNatClampNeg ≤ 65536) (hcells : cells + 1 ≤ R.cells) (hslots : slots + n.toNatClampNeg ≤ R.slots) (hd : decode cc pc = .ok (.newarray aty, 2))
    (kk : ∀ (q : Nat) (H1 : Heap), va_P D cl (ws ++ [(q, me ad cA (am_row t n.toNatClampNeg))]) H1 → va_D A (ws ++ [(q, me ad cA (am_row t n.toNatClampNeg))]) → va_S A s.heap H1 locs →
      W p l e R s m args below meth c H1 locs (cells + 1) (slots + n.toNatClampNeg) Q (F0 m (pc + 2) ls (.ref q :: rest))) : W p l e R s m args below meth c H locs cells slots Q (F0 m pc ls (.int n :: rest)) := by
  rcases ht with ⟨rfl, rfl⟩ | ⟨rfl, rfl⟩ | ⟨rfl, rfl⟩
  · refine va_newa (ty := .int) (a0 := (n.toNatClampNeg, .inl (fun _ => 0))) hx hb harr rfl hK hP hD hS hA (fun _ => rfl) hn rfl (by show _ * 4 ≤ _; omega) hcells hslots hd (fun q cA2 H1 hK2 hP2 hD2 hS2 => ?_)
    have e1 : cA2 = cA 0 := Option.some.inj ((hK2.2 3 _ rfl).2.symm.trans (hK2.2 0 _ rfl).2)
    subst e1
    exact kk q H1 hP2 hD2 hS2
  · refine va_newa (ty := .long) (a0 := (n.toNatClampNeg, .inr (.inl (fun _ => 0)))) hx hb harr rfl hK hP hD hS hA (fun _ => rfl) hn rfl (by show _ * 8 ≤ _; omega) hcells hslots hd (fun q cA2 H1 hK2 hP2 hD2 hS2 => ?_)
    have e1 : cA2 = cA 1 := Option.some.inj ((hK2.2 3 _ rfl).2.symm.trans (hK2.2 1 _ rfl).2)
    subst e1
    exact kk q H1 hP2 hD2 hS2
  · refine va_newa (ty := .boolean) (a0 := (n.toNatClampNeg, .inl (fun _ => 0))) hx hb harr rfl hK hP hD hS hA (fun _ => rfl) hn rfl (by show _ * 1 ≤ _; omega) hcells hslots hd (fun q cA2 H1 hK2 hP2 hD2 hS2 => ?_)
    have e1 : cA2 = cA 2 := Option.some.inj ((hK2.2 3 _ rfl).2.symm.trans (hK2.2 2 _ rfl).2)
    subst e1
    exact kk q H1 hP2 hD2 hS2
set_option maxHeartbeats 4000000 in
set_option maxRecDepth 100000 in
theorem am_n_ok {i : Instr} (hs : am_n df ex L st u i = some (st2, u2)) (hx : p.tables.exec = Jvm.exec) (hb : c.code = cc) (hts : ∀ w ∈ Ts, w.before args s = true) (hown : s.vm.findClass own = some m.cls)
    (hw : am_wn args s own cl Ts df ex i) (hK : va_K D cl (am_tys cA) s) (hP : va_P D cl (mw ad cA u.1) H) (hD : va_D A (mw ad cA u.1)) (hS : va_S A s.heap H locs) (hA : ∀ q, s.heap.size ≤ q → A q) (hl : lv_has ls nL (am_as ad L)) (hd : decode cc pc = .ok (i, am_len i))
    (hcells : ∀ k, u2.2.1 = u.2.1 + k → cells + k ≤ R.cells) (hslots : ∀ k, u2.2.2 = u.2.2 + k → slots + k ≤ R.slots)
    (k : ∀ (ad2 : Nat → Nat) (H1 : Heap) (kc ks : Nat), (∀ i, i < u.1.length → ad2 i = ad i) → (∀ i, am_EX ≤ i → ad2 i = ad i) → u.1.length < u2.1.length → u2.2.1 = u.2.1 + kc → u2.2.2 = u.2.2 + ks → va_P D cl (mw ad2 cA u2.1) H1 → va_D A (mw ad2 cA u2.1) → va_S A s.heap H1 locs → lv_has ls nL (am_as ad2 L) →
      W p l e R s m args below meth c H1 locs (cells + kc) (slots + ks) Q (F0 m (pc + am_len i) ls (st2.map (mv ad2)))) : W p l e R s m args below meth c H locs cells slots Q (F0 m pc ls (st.map (mv ad))) := by
  cases i
  case new idx =>
    simp only [am_n] at hs
    split at hs
    · next ci N =>
      split at hs
      · next hc =>
        cases hs
        obtain ⟨hsc, hlt⟩ := hc
        unfold am_sc at hsc
        rw [Bool.and_eq_true, Bool.and_eq_true] at hsc
        obtain ⟨s1, s2, s3⟩ := hsc
        obtain ⟨C, T, ty, h1, h2, h3, h4, h5, h6, h7, h8⟩ := hw _ _ rfl
        refine va_new (D := D) (C := C) (T := T) (N := N) hx hb hts h2 ty h3 hown h4 h5 h6 hK hP hD hS hA h1 h7 (hcells 1 rfl) (hslots N rfl) hd (fun q H1 hP1 hD1 hS1 => ?_)
        have e1 : mw (am_ad ad u.1.length q) cA (u.1 ++ [.inr (ci, df ci)]) = mw ad cA u.1 ++ [(q, .inr (ci, df ci))] := by
          rw [am_mw_new (q := q) am_ad_lt (am_ad_ge hlt) am_ad_eq s3]
          show _ ++ [(q, Sum.inr (ci, (df ci).map (mv _)))] = _
          rw [h8]
        have e2 : (Value.ref u.1.length :: st).map (mv (am_ad ad u.1.length q)) = .ref q :: st.map (mv ad) := by
          rw [List.map_cons, am_sc_l am_ad_lt (am_ad_ge hlt) s2]
          show Value.ref (am_ad ad u.1.length q u.1.length) :: _ = _
          rw [am_ad_eq]
        have k2 := k (am_ad ad u.1.length q) H1 1 N am_ad_lt (am_ad_ge hlt) (by show _ < (u.1 ++ [_]).length; simp) rfl rfl (by rw [e1]; exact hP1) (by rw [e1]; exact hD1) hS1 (am_has_of hl (am_sc_L am_ad_lt (am_ad_ge hlt) s1))
        rw [e2] at k2
        exact k2
      · cases hs
    · cases hs
  case newarray aty =>
    simp only [am_n] at hs
    split at hs
    · next t n st3 =>
      split at hs
      · next hc =>
        cases hs
        obtain ⟨hsc, hlt, hn0, hN⟩ := hc
        unfold am_sc at hsc
        rw [Bool.and_eq_true, Bool.and_eq_true] at hsc
        obtain ⟨s1, s2, s3⟩ := hsc
        obtain ⟨h1, h2⟩ := hw _ rfl
        refine am_newa_ok (ad := ad) hx hb h2 h1 hK hP hD hS hA hn0 hN (hcells 1 rfl) (hslots _ rfl) hd (fun q H1 hP1 hD1 hS1 => ?_)
        have e0 : ∀ a9 : Nat → Nat, me a9 cA (am_row t n.toNatClampNeg) = me ad cA (am_row t n.toNatClampNeg) := fun a9 => by
          rcases h1 with ⟨rfl, -⟩ | ⟨rfl, -⟩ | ⟨rfl, -⟩ <;> rfl
        have e1 : mw (am_ad ad u.1.length q) cA (u.1 ++ [am_row t n.toNatClampNeg]) = mw ad cA u.1 ++ [(q, me ad cA (am_row t n.toNatClampNeg))] := by
          rw [am_mw_new (q := q) am_ad_lt (am_ad_ge hlt) am_ad_eq s3, e0]
        have e2 : (Value.ref u.1.length :: st3).map (mv (am_ad ad u.1.length q)) = .ref q :: st3.map (mv ad) := by
          rw [List.map_cons, am_sc_l am_ad_lt (am_ad_ge hlt) s2]
          show Value.ref (am_ad ad u.1.length q u.1.length) :: _ = _
          rw [am_ad_eq]
        have k2 := k (am_ad ad u.1.length q) H1 1 n.toNatClampNeg am_ad_lt (am_ad_ge hlt) (by show _ < (u.1 ++ [_]).length; simp) rfl rfl (by rw [e1]; exact hP1) (by rw [e1]; exact hD1) hS1 (am_has_of hl (am_sc_L am_ad_lt (am_ad_ge hlt) s1))
        rw [e2] at k2
        exact k2
      · cases hs
    · cases hs
  all_goals exact absurd (show (none : Option (List Value × am_M)) = some (st2, u2) from hs) (fun q => by cases q)
end AM6
