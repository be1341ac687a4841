/-! ## 05 the abstract machine's stores, jumps and makings against the machine's -/
def am_ft : Nat → FieldType → Prop
  | 0, .int => True
  | 1, .long => True
  | 2, .boolean => True
  | 3, .object _ => True
  | 3, .array _ => True
  | _, _ => False
/-- what the tables must say for a store into a field -/
def am_wf (args : Array Value) (s : State) (own : String) (cl : List vw_C) (Ts : List Cond) (meth : Method) (ex : List Nat) : Instr → Prop
  | .putfield idx => ∀ k ty cis, ex = k :: ty :: cis → ∀ ci, am_mem ci cis = true → ∃ (C : String) (T : u_T) (N : Nat) (ty0 : Nat → FieldType), cl[ci]? = some (C, T, N) ∧ k < N ∧ (∀ w ∈ u_ws C T N, w ∈ Ts) ∧
      (∀ j, j < N → parseFieldDescriptor (T j).2.2.1 = some (ty0 j)) ∧ (∀ a, a < N → ∀ b, b < N → a ≠ b → (T a).2.1 ≠ (T b).2.1) ∧ am_ft ty (ty0 k) ∧
      (((T k).2.2.2 = false ∧ ((Cond.fieldLink own idx (T k).1 (T k).2.1 (T k).2.2.1).before args s = true ∨ ∃ host : String, (Cond.fieldLinkNest own idx (T k).1 (T k).2.1 (T k).2.2.1 host).before args s = true)) ∨
        ((T k).2.2.2 = true ∧ meth.name = "<init>" ∧ (T k).1 = own ∧ (Cond.fieldLink own idx (T k).1 (T k).2.1 (T k).2.2.1).before args s = true))
  | _ => True
section AM5
variable {p : Program} {l : Launch} {e : Env} {R : Room} {s : State} {m : MethodId} {args : Array Value} {below : List Frame} {meth : Method} {c : Code} {H : Heap} {locs : List Loc} {cells slots : Nat} {Q : State → Prop}
variable {cc : ByteArray} {pc : Nat} {ls : Array Slot} {D : va_G} {cl : List vw_C} {A : Nat → Prop} {ad : Nat → Nat} {cA : Nat → ClassId} {nL : Nat} {own : String} {Ts : List Cond}
variable {X : am_Xs} {ex : List Nat} {L L2 : am_L} {st st2 : List Value} {h h2 : List am_E}
theorem am_inr_set (fs : List Value) (k : Nat) (v : Value) (ci a : Nat) : (mw ad cA h).set a (ad a, .inr (ci, (fs.map (mv ad)).set k (mv ad v))) = mw ad cA (h.set a (.inr (ci, fs.set k v))) := by
  rw [← mw_set]
  show _ = (mw ad cA h).set a (ad a, .inr (ci, (fs.set k v).map (mv ad)))
  rw [List.map_set]
theorem am_put_ok {idx k ty a ci : Nat} {cis : List Nat} {fs : List Value} {v : Value} {rest : List Value} (hx : p.tables.exec = Jvm.exec) (hb : c.code = cc) (hts : ∀ w ∈ Ts, w.before args s = true) (hown : s.vm.findClass own = some m.cls)
    (hw : am_wf args s own cl Ts meth (k :: ty :: cis) (.putfield idx)) (hK : va_K D cl (am_tys cA) s) (hP : va_P D cl (mw ad cA h) H) (hD : va_D A (mw ad cA h)) (hS : va_S A s.heap H locs)
    (hh : h[a]? = some (.inr (ci, fs))) (hm : am_mem ci cis = true) (hk : k < fs.length) (hv : ∀ t, am_ft ty t → narrow t (mv ad v) = mv ad v ∧ fits t (mv ad v) = true)
    (hd : decode cc pc = .ok (.putfield idx, 3))
    (kk : ∀ (H1 : Heap) (locs1 : List Loc), va_P D cl (mw ad cA (h.set a (.inr (ci, fs.set k v)))) H1 → va_D A (mw ad cA (h.set a (.inr (ci, fs.set k v)))) → va_S A s.heap H1 locs1 → W p l e R s m args below meth c H1 locs1 cells slots Q (F0 m (pc + 3) ls rest)) :
    W p l e R s m args below meth c H locs cells slots Q (F0 m pc ls (mv ad v :: .ref (ad a) :: rest)) := by
  obtain ⟨C, T, N, ty0, hc, hkN, hin, hty, hnm, hft, hlink⟩ := hw k ty cis rfl ci hm
  obtain ⟨hnar, hfit⟩ := hv _ hft
  have hl2 : k < (fs.map (mv ad)).length := by rw [List.length_map]; exact hk
  have kk2 : ∀ (H1 : Heap) (locs1 : List Loc), va_P D cl ((mw ad cA h).set a (ad a, .inr (ci, (fs.map (mv ad)).set k (mv ad v)))) H1 → va_D A ((mw ad cA h).set a (ad a, .inr (ci, (fs.map (mv ad)).set k (mv ad v)))) → va_S A s.heap H1 locs1 → W p l e R s m args below meth c H1 locs1 cells slots Q (F0 m (pc + 3) ls rest) := by
    intro H1 locs1 q1 q2 q3
    rw [am_inr_set] at q1 q2
    exact kk H1 locs1 q1 q2 q3
  rcases hlink with ⟨hf, hlink | ⟨host, hlink⟩⟩ | ⟨hf, hi, hdecl, hlink⟩
  · exact va_put (D := D) (C := C) (T := T) (N := N) (ty := ty0 k) hx hb hts hin ty0 hty hnm hown hK hP hD hS a (mw_get hh) hc k hkN hlink (fun _ q => q) hf (hty k hkN) hnar hfit hl2 hd kk2
  · exact va_putN (D := D) (C := C) (T := T) (N := N) (ty := ty0 k) hx hb hts hin ty0 hty hnm hown hK hP hD hS a (mw_get hh) hc k hkN hlink (fun _ q => q) hf (hty k hkN) hnar hfit hl2 hd kk2
  · exact va_putF (D := D) (C := C) (T := T) (N := N) (ty := ty0 k) hx hb hts hin ty0 hty hnm hown hK hP hD hS a (mw_get hh) hc k hkN hlink (fun _ q => q) hf hi hdecl (hty k hkN) hnar hfit hl2 hd kk2
theorem am_ft0 {t : FieldType} (h : am_ft 0 t) (x : Int32) : narrow t (.int x) = .int x ∧ fits t (.int x) = true := by
  cases t <;> first | exact h.elim | exact ⟨rfl, rfl⟩
theorem am_ft1 {t : FieldType} (h : am_ft 1 t) (x : Int64) : narrow t (.long x) = .long x ∧ fits t (.long x) = true := by
  cases t <;> first | exact h.elim | exact ⟨rfl, rfl⟩
theorem am_ft2 {t : FieldType} (h : am_ft 2 t) {x : Int32} (hx : x = 0 ∨ x = 1) : narrow t (.int x) = .int x ∧ fits t (.int x) = true := by
  cases t <;> first | exact h.elim | (rcases hx with rfl | rfl <;> exact ⟨by decide, by decide⟩)
theorem am_ft3 {t : FieldType} (h : am_ft 3 t) (x : Nat) : narrow t (.ref x) = .ref x ∧ fits t (.ref x) = true := by
  cases t <;> first | exact h.elim | exact ⟨rfl, rfl⟩
set_option maxHeartbeats 4000000 in
set_option maxRecDepth 100000 in
theorem am_w_ok {i : Instr} (hs : am_w ex st h i = some (st2, h2)) (hx : p.tables.exec = Jvm.exec) (hb : c.code = cc) (hts : ∀ w ∈ Ts, w.before args s = true) (hown : s.vm.findClass own = some m.cls)
    (hw : am_wf args s own cl Ts meth ex i) (hK : va_K D cl (am_tys cA) s) (hP : va_P D cl (mw ad cA h) H) (hD : va_D A (mw ad cA h)) (hS : va_S A s.heap H locs) (hd : decode cc pc = .ok (i, am_len i))
    (k : ∀ (H1 : Heap) (locs1 : List Loc), va_P D cl (mw ad cA h2) H1 → va_D A (mw ad cA h2) → va_S A s.heap H1 locs1 → h2.length = h.length → W p l e R s m args below meth c H1 locs1 cells slots Q (F0 m (pc + am_len i) ls (st2.map (mv ad)))) : W p l e R s m args below meth c H locs cells slots Q (F0 m pc ls (st.map (mv ad))) := by
  cases i
  case iastore =>
    simp only [am_w] at hs
    split at hs
    · next x j a st3 =>
      split at hs
      · next n f hh =>
        split at hs
        · next hin =>
          cases hs
          refine va_iast hx hb hK hP hD hS a 0 (mw_get hh) rfl hin hd (fun H1 locs1 q1 q2 q3 => ?_)
          have e1 := mw_set ad cA h a (.inl (0, n, .inl (upd f j.toNatClampNeg x)))
          exact k H1 locs1 (e1 ▸ q1) (e1 ▸ q2) q3 (List.length_set ..)
        · cases hs
      · cases hs
    · cases hs
  case lastore =>
    simp only [am_w] at hs
    split at hs
    · next x j a st3 =>
      split at hs
      · next n f hh =>
        split at hs
        · next hin =>
          cases hs
          refine va_last hx hb hK hP hD hS a 1 (mw_get hh) rfl hin hd (fun H1 locs1 q1 q2 q3 => ?_)
          have e1 := mw_set ad cA h a (.inl (1, n, .inr (.inl (vp_updL f j.toNatClampNeg x))))
          exact k H1 locs1 (e1 ▸ q1) (e1 ▸ q2) q3 (List.length_set ..)
        · cases hs
      · cases hs
    · cases hs
  case bastore =>
    simp only [am_w] at hs
    split at hs
    · next x j a st3 =>
      split at hs
      · next n f hh =>
        split at hs
        · next hin =>
          cases hs
          refine va_zast hx hb hK hP hD hS a 2 (mw_get hh) rfl hin hd (fun H1 locs1 q1 q2 q3 => ?_)
          have e1 := mw_set ad cA h a (.inl (2, n, .inl (upd f j.toNatClampNeg (vp_nar .boolean x))))
          exact k H1 locs1 (e1 ▸ q1) (e1 ▸ q2) q3 (List.length_set ..)
        · cases hs
      · cases hs
    · cases hs
  case putfield idx =>
    simp only [am_w] at hs
    split at hs
    · next k0 ty cis v a st3 =>
      split at hs
      · next ci fs hh =>
        split at hs
        · next x hm hk =>
          cases hs
          exact am_put_ok (v := .int x) hx hb hts hown hw hK hP hD hS hh hm (of_decide_eq_true hk) (fun t ht => am_ft0 ht x) hd (fun H1 locs1 q1 q2 q3 => k H1 locs1 q1 q2 q3 (List.length_set ..))
        · next x hm hk =>
          cases hs
          exact am_put_ok (v := .long x) hx hb hts hown hw hK hP hD hS hh hm (of_decide_eq_true hk) (fun t ht => am_ft1 ht x) hd (fun H1 locs1 q1 q2 q3 => k H1 locs1 q1 q2 q3 (List.length_set ..))
        · next x hm hk =>
          split at hs
          · next h01 =>
            cases hs
            exact am_put_ok (v := .int x) hx hb hts hown hw hK hP hD hS hh hm (of_decide_eq_true hk) (fun t ht => am_ft2 ht h01) hd (fun H1 locs1 q1 q2 q3 => k H1 locs1 q1 q2 q3 (List.length_set ..))
          · cases hs
        · next x hm hk =>
          cases hs
          exact am_put_ok (v := .ref x) hx hb hts hown hw hK hP hD hS hh hm (of_decide_eq_true hk) (fun t ht => am_ft3 ht (ad x)) hd (fun H1 locs1 q1 q2 q3 => k H1 locs1 q1 q2 q3 (List.length_set ..))
        · cases hs
      · cases hs
    · cases hs
  all_goals exact absurd (show (none : Option (List Value × List am_E)) = some (st2, h2) from hs) (fun q => by cases q)
end AM5
/-- the targets of a switch by keys -/
def am_lkok (pc : Nat) : List (Int × Int) → List Nat → Prop
  | (_, o) :: r, t :: ts => (pc : Int) + o = (t : Int) ∧ am_lkok pc r ts
  | [], [] => True
  | _, _ => False
theorem am_lk_off {pc d : Nat} {dflt : Int} (hd : (pc : Int) + dflt = (d : Int)) (x : Int) : ∀ (ps : List (Int × Int)) (ts : List Nat), am_lkok pc ps ts → (pc : Int) + Op.lookupswitch.offset ps dflt x = (am_look ps x ts d : Int)
  | [], [], _ => by rw [show Op.lookupswitch.offset [] dflt x = dflt from rfl]; exact hd
  | (k, o) :: r, t :: ts, h => by
    rw [Op.lookupswitch.offset_cons]
    unfold am_look
    by_cases hk : x = k
    · rw [if_pos hk.symm, if_pos hk]
      exact h.1
    · rw [if_neg (fun q => hk q.symm), if_neg hk]
      exact am_lk_off hd x r ts h.2
  | [], _ :: _, h => h.elim
  | _ :: _, [], h => h.elim
/-- where the jumps of a table go -/
def am_jd (pc : Nat) (ex : List Nat) : Instr → Prop
  | .goto off => ∀ t, ex = [t] → (pc : Int) + off = (t : Int)
  | .ifCond _ off => ∀ t, ex = [t] → (pc : Int) + off = (t : Int)
  | .if_icmp _ off => ∀ t, ex = [t] → (pc : Int) + off = (t : Int)
  | .tableswitch dflt _ _ offs => ∀ (d : Nat) (ts : List Nat), ex = d :: ts → (pc : Int) + dflt = (d : Int) ∧ ∀ (j t : Nat), ts[j]? = some t → ∃ off, offs[j]? = some off ∧ (pc : Int) + off = (t : Int)
  | .lookupswitch dflt ps => ∀ d ts, ex = d :: ts → (pc : Int) + dflt = (d : Int) ∧ (ps.toList.zip (ps.toList.drop 1)).all (fun (a, next) => a.1 < next.1) = true ∧ am_lkok pc ps.toList ts
  | _ => True
section AM5J
variable {p : Program} {l : Launch} {e : Env} {R : Room} {s : State} {m : MethodId} {args : Array Value} {below : List Frame} {meth : Method} {c : Code} {H : Heap} {locs : List Loc} {cells slots : Nat} {Q : State → Prop}
variable {cc : ByteArray} {pc n t2 : Nat} {ls : Array Slot} {ad : Nat → Nat}
variable {ex : List Nat} {st st2 : List Value}
set_option maxHeartbeats 4000000 in
set_option maxRecDepth 100000 in
theorem am_j_ok {i : Instr} (hs : am_j ex st (pc + n) i = some (st2, t2)) (hx : p.tables.exec = Jvm.exec) (hb : c.code = cc) (hj : am_jd pc ex i) (hd : decode cc pc = .ok (i, n)) (hn : am_len i = n ∨ (∃ a b c d, i = .tableswitch a b c d) ∨ ∃ a b, i = .lookupswitch a b)
    (k : W p l e R s m args below meth c H locs cells slots Q (F0 m t2 ls (st2.map (mv ad)))) : W p l e R s m args below meth c H locs cells slots Q (F0 m pc ls (st.map (mv ad))) := by
  cases i
  case goto off =>
    rcases hn with hn | ⟨_, _, _, _, hn⟩ | ⟨_, _, hn⟩
    · subst hn
      simp only [am_j] at hs
      split at hs
      · next t =>
        cases hs
        exact lv_goto hx hb hd (hj _ rfl) k
      · cases hs
    · cases hn
    · cases hn
  case ifCond cn off =>
    rcases hn with hn | ⟨_, _, _, _, hn⟩ | ⟨_, _, hn⟩
    · subst hn
      simp only [am_j] at hs
      split at hs
      · next t x st3 =>
        cases hs
        have ht := hj _ rfl
        cases cn
        case eq => exact lv_if_eq hx hb hd ht (fun q => by rw [if_pos (by simpa [am_ic] using q)] at k; exact k) (fun q => by rw [if_neg (by simpa [am_ic] using q)] at k; exact k)
        case ne => exact lv_if_ne hx hb hd ht (fun q => by rw [if_pos (by simpa [am_ic] using q)] at k; exact k) (fun q => by rw [if_neg (by simpa [am_ic] using q)] at k; exact k)
        case lt => exact lv_if_lt hx hb hd ht (fun q => by rw [if_pos (by simpa [am_ic] using q)] at k; exact k) (fun q => by rw [if_neg (by simpa [am_ic] using q)] at k; exact k)
        case ge => exact lv_if_ge hx hb hd ht (fun q => by rw [if_pos (by simpa [am_ic] using q)] at k; exact k) (fun q => by rw [if_neg (by simpa [am_ic] using q)] at k; exact k)
        case gt => exact lv_if_gt hx hb hd ht (fun q => by rw [if_pos (by simpa [am_ic] using q)] at k; exact k) (fun q => by rw [if_neg (by simpa [am_ic] using q)] at k; exact k)
        case le => exact lv_if_le hx hb hd ht (fun q => by rw [if_pos (by simpa [am_ic] using q)] at k; exact k) (fun q => by rw [if_neg (by simpa [am_ic] using q)] at k; exact k)
      · cases hs
    · cases hn
    · cases hn
  case if_icmp cn off =>
    rcases hn with hn | ⟨_, _, _, _, hn⟩ | ⟨_, _, hn⟩
    · subst hn
      simp only [am_j] at hs
      split at hs
      · next t y x st3 =>
        cases hs
        have ht := hj _ rfl
        cases cn
        case eq => exact lv_icmp_eq hx hb hd ht (fun q => by rw [if_pos (by simpa [am_ic] using q)] at k; exact k) (fun q => by rw [if_neg (by simpa [am_ic] using q)] at k; exact k)
        case ne => exact lv_icmp_ne hx hb hd ht (fun q => by rw [if_pos (by simpa [am_ic] using q)] at k; exact k) (fun q => by rw [if_neg (by simpa [am_ic] using q)] at k; exact k)
        case lt => exact lv_icmp_lt hx hb hd ht (fun q => by rw [if_pos (by simpa [am_ic] using q)] at k; exact k) (fun q => by rw [if_neg (by simpa [am_ic] using q)] at k; exact k)
        case ge => exact lv_icmp_ge hx hb hd ht (fun q => by rw [if_pos (by simpa [am_ic] using q)] at k; exact k) (fun q => by rw [if_neg (by simpa [am_ic] using q)] at k; exact k)
        case gt => exact lv_icmp_gt hx hb hd ht (fun q => by rw [if_pos (by simpa [am_ic] using q)] at k; exact k) (fun q => by rw [if_neg (by simpa [am_ic] using q)] at k; exact k)
        case le => exact lv_icmp_le hx hb hd ht (fun q => by rw [if_pos (by simpa [am_ic] using q)] at k; exact k) (fun q => by rw [if_neg (by simpa [am_ic] using q)] at k; exact k)
      · cases hs
    · cases hn
    · cases hn
  case tableswitch dflt lo hi offs =>
    simp only [am_j] at hs
    split at hs
    · next d ts x st3 =>
      obtain ⟨h1, h2⟩ := hj _ _ rfl
      split at hs
      · next ho =>
        cases hs
        exact lv_tableOut hx hb hd ho h1 k
      · next ho =>
        split at hs
        · next t ht =>
          cases hs
          obtain ⟨off, h3, h4⟩ := h2 _ _ ht
          exact lv_tableIn hx hb hd (fun q => ho (Or.inl q)) (fun q => ho (Or.inr q)) h3 h4 k
        · cases hs
    · cases hs
  case lookupswitch dflt ps =>
    simp only [am_j] at hs
    split at hs
    · next d ts x st3 =>
      obtain ⟨h1, h2, h3⟩ := hj _ _ rfl
      cases hs
      exact lv_lookup hx hb hd h2 rfl (am_lk_off h1 _ _ _ h3) k
    · cases hs
  all_goals exact absurd (show (none : Option (List Value × Nat)) = some (st2, t2) from hs) (fun q => by cases q)
end AM5J
