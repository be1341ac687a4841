/-! ## 10 the abstract machine is sound: by the fuel -/
section AM10
variable (X : am_Xs) (df : am_Df) (T : am_T) (MT : am_Mt) (D : va_G) (cA : Nat → ClassId) (cl : List vw_C) (NW TB : List Cond) (SR NC : List (String × Nat × String)) (A : Nat → Prop) (l : Launch)
/-- how a call leaves the world -/
def am_Rs (ad : Nat → Nat) (u u2 : am_M) (st t : State) (ad2 : Nat → Nat) : Prop := am_ag ad ad2 u.1.length u2.1.length ∧ va_P D cl (mw ad2 cA u2.1) t.heap ∧ va_D A (mw ad2 cA u2.1) ∧ va_F A st t
def am_Pc (ad : Nat → Nat) (as : List Value) (u : am_M) : Array Value → State → Prop := va_Pc (as.map (mv ad)) (fun U => am_Env D cA cl NW SR NC A X ad U ∧ va_P D cl (mw ad cA u.1) U.heap ∧ va_D A (mw ad cA u.1))
def am_Qc (ad : Nat → Nat) (u : am_M) (r : am_O × am_M) : Array Value → State → Outcome → State → Prop := fun _ st o t => ∃ (v : Option Value) (ad2 : Nat → Nat), r.1 = .inl v ∧ o = .returned (v.map (mv ad2)) ∧ am_Rs D cA cl A ad u r.2 st t ad2
def am_XC (ad : Nat → Nat) (u : am_M) (r : am_O × am_M) : String → State → State → Prop := fun E st t => ∃ (n : Nat) (ad2 : Nat → Nat), r.1 = .inr n ∧ n < 3 ∧ E = am_xn n ∧ am_Rs D cA cl A ad u r.2 st t ad2
/-- the tables of all methods that can be called are their code's -/
def am_G : Prop := ∀ y yn b nL ret hj B hh, MT y = some (yn, b, nL, ret, hj) → T y = some (B, nL, hh) → plainName yn.cls = true ∧ ((hj = [] ∧ Cond.code yn b nL ret ∈ TB) ∨ ((∃ z t, hj = z :: t) ∧ Cond.codeWith yn b nL ret hj ∈ TB)) ∧
  ∀ (args : Array Value) (s : State) (meth : Method), (∀ w ∈ TB, w.before args s = true) → (∀ w ∈ NW, va_Nw w s) → meth.name = yn.name → am_hj args s yn.cls hh hj ∧ ∀ pc ent, am_at B pc = some ent → am_ok args s yn.cls cl TB SR df meth MT T b ret pc ent
/-- what a return finds -/
def am_rt (i : Instr) (ex : List Nat) (v : Option Value) : Prop := (i = .ireturn ∧ ∃ x : Int32, v = some (.int x) ∧ (ex = [0] ∨ ex = [1] ∧ (x = 0 ∨ x = 1))) ∨ (i = .lreturn ∧ ∃ x : Int64, v = some (.long x)) ∨ (i = .return_ ∧ v = none)
def am_kR (p : Program) (e : Env) (R : Room) (s : State) (m : MethodId) (args : Array Value) (below : List Frame) (meth : Method) (c : Code) (Q : State → Prop) (B : am_B) (ad : Nat → Nat) (u : am_M) (r : am_O × am_M) (c0 s0 : Nat) : Prop :=
  ∀ (v : Option Value) (u2 : am_M) (ad2 : Nat → Nat) (H2 : Heap) (locs2 : List Loc) (cl2 sl2 pc2 : Nat) (ls2 : Array Slot) (i : Instr) (n : Nat) (ex : List Nat), r = (.inl v, u2) → am_ag ad ad2 u.1.length u2.1.length → va_P D cl (mw ad2 cA u2.1) H2 → va_D A (mw ad2 cA u2.1) → va_S A s.heap H2 locs2 → c0 + cl2 = u2.2.1 → s0 + sl2 = u2.2.2 →
    am_at B pc2 = some (5, i, n, ex) → am_rt i ex v → W p l e R s m args below meth c H2 locs2 cl2 sl2 Q (F0 m pc2 ls2 (v.toList.map (mv ad2)))
def am_kX (p : Program) (e : Env) (R : Room) (s : State) (m : MethodId) (args : Array Value) (below : List Frame) (meth : Method) (c : Code) (Q : State → Prop) (hh : List (Nat × Nat × Nat × Nat)) (ad : Nat → Nat) (u : am_M) (r : am_O × am_M) (c0 s0 : Nat) : Prop :=
  ∀ (E : Nat) (u2 : am_M) (ad2 : Nat → Nat) (H2 : Heap) (locs2 : List Loc) (cl2 sl2 pc2 : Nat) (ls2 : Array Slot) (rest : List Value) (q : Addr) (ce : Cell), r = (.inr E, u2) → E < 3 → am_ag ad ad2 u.1.length u2.1.length → va_P D cl (mw ad2 cA u2.1) H2 → va_D A (mw ad2 cA u2.1) → va_S A s.heap H2 locs2 → c0 + cl2 = u2.2.1 → s0 + sl2 = u2.2.2 →
    H2[q]? = some ce → ce.vm = .none → s.vm.findClass (am_xn E) = some ce.cls → am_catch hh pc2 E = none → vx_W p l e R s m args below meth c H2 locs2 cl2 sl2 Q (F0 m pc2 ls2 rest) q
def am_kT (p : Program) (e : Env) (R : Room) (s : State) (m : MethodId) (args : Array Value) (below : List Frame) (meth : Method) (c : Code) (Q : State → Prop) (B : am_B) (nL : Nat) (hh : List (Nat × Nat × Nat × Nat)) (ad : Nat → Nat) (u : am_M) (r : am_O × am_M) (c0 s0 : Nat) : Prop :=
  ∀ (E : Nat) (u2 : am_M) (ad2 : Nat → Nat) (H2 : Heap) (locs2 : List Loc) (cl2 sl2 pc2 : Nat) (ls2 : Array Slot) (rest : List Value) (i : Instr) (n : Nat), r = (.inr E, u2) → am_ag ad ad2 u.1.length u2.1.length → va_P D cl (mw ad2 cA u2.1) H2 → va_D A (mw ad2 cA u2.1) → va_S A s.heap H2 locs2 → c0 + cl2 + 1 = u2.2.1 → s0 + sl2 + 6 = u2.2.2 →
    am_at B pc2 = some (6, i, n, [E]) → hh = [] → ls2.size = nL → (rest.map Value.category).sum ≤ 8 → W p l e R s m args below meth c H2 locs2 cl2 sl2 Q (F0 m pc2 ls2 (rest.map (mv ad2)))
/-- soundness at a fuel -/
def am_P (f : Nat) : Prop := ∀ (d y pc : Nat) (L : am_L) (st : List Value) (u : am_M) (r : am_O × am_M), am_ev X df T f d y pc L st u = some r →
  ∀ (p : Program) (e : Env) (R : Room) (s : State) (m : MethodId) (args : Array Value) (below : List Frame) (meth : Method) (c : Code) (H : Heap) (locs : List Loc) (cells slots : Nat) (Q : State → Prop) (ad : Nat → Nat) (ls : Array Slot) (own : String) (cc : ByteArray) (nL : Nat) (B : am_B) (hh hj : List (Nat × Nat × Nat × Nat)) (ret : Option FieldType) (c0 s0 : Nat),
    T y = some (B, nL, hh) → CallFix p m c cc nL s args TB own → am_Env D cA cl NW SR NC A X ad s → am_Ncs s → am_hj args s own hh hj → (hh ≠ [] → c.exceptionTable.toList = tableOf hj) → (∀ pc ent, am_at B pc = some ent → am_ok args s own cl TB SR df meth MT T cc ret pc ent) →
    va_P D cl (mw ad cA u.1) H → va_D A (mw ad cA u.1) → va_S A s.heap H locs → lv_has ls nL (am_as ad L) → L.length = nL → c0 + cells = u.2.1 → s0 + slots = u.2.2 → r.2.2.1 ≤ c0 + R.cells → r.2.2.2 ≤ s0 + R.slots → d + 8 ≤ R.frames → 60 * d + 300 ≤ R.locals →
    am_kR D cA cl A l p e R s m args below meth c Q B ad u r c0 s0 → am_kX D cA cl A l p e R s m args below meth c Q hh ad u r c0 s0 → am_kT D cA cl A l p e R s m args below meth c Q B nL hh ad u r c0 s0 →
    W p l e R s m args below meth c H locs cells slots Q (F0 m pc ls (st.map (mv ad)))
def am_NcIn (NC : List (String × Nat × String)) : Prop := ∀ a b, a < 3 → b < 3 → a ≠ b → ∃ n, (am_xn a, n, am_xn b) ∈ NC
variable {X df T MT D cA cl NW TB SR NC A l}
theorem am_Ncs_of {ad : Nat → Nat} {s : State} (hN : am_NcIn NC) (h : am_Env D cA cl NW SR NC A X ad s) : am_Ncs s := fun a b ha hb hne => by
  obtain ⟨n, hn⟩ := hN a b ha hb hne
  exact h.2.2.2.2.2.2.2.2 _ hn
theorem am_kRS {p : Program} {e : Env} {R : Room} {s : State} {m : MethodId} {args : Array Value} {below : List Frame} {meth : Method} {c : Code} {Q : State → Prop} {B : am_B} {ad ad1 : Nat → Nat} {u u1 : am_M} {r : am_O × am_M} {c0 s0 : Nat}
    (h : am_kR D cA cl A l p e R s m args below meth c Q B ad u r c0 s0) (ha : am_ag ad ad1 u.1.length u1.1.length) (hn : u.1.length ≤ u1.1.length) (hn2 : u1.1.length ≤ r.2.1.length) : am_kR D cA cl A l p e R s m args below meth c Q B ad1 u1 r c0 s0 := by
  intro v u2 ad2 H2 locs2 cl2 sl2 pc2 ls2 i n ex hr hag
  refine h v u2 ad2 H2 locs2 cl2 sl2 pc2 ls2 i n ex hr (ha.tr hag hn ?_)
  rw [hr] at hn2
  exact hn2
theorem am_kXS {p : Program} {e : Env} {R : Room} {s : State} {m : MethodId} {args : Array Value} {below : List Frame} {meth : Method} {c : Code} {Q : State → Prop} {hh : List (Nat × Nat × Nat × Nat)} {ad ad1 : Nat → Nat} {u u1 : am_M} {r : am_O × am_M} {c0 s0 : Nat}
    (h : am_kX D cA cl A l p e R s m args below meth c Q hh ad u r c0 s0) (ha : am_ag ad ad1 u.1.length u1.1.length) (hn : u.1.length ≤ u1.1.length) (hn2 : u1.1.length ≤ r.2.1.length) : am_kX D cA cl A l p e R s m args below meth c Q hh ad1 u1 r c0 s0 := by
  intro E u2 ad2 H2 locs2 cl2 sl2 pc2 ls2 rest q ce hr hE hag
  refine h E u2 ad2 H2 locs2 cl2 sl2 pc2 ls2 rest q ce hr hE (ha.tr hag hn ?_)
  rw [hr] at hn2
  exact hn2
theorem am_kTS {p : Program} {e : Env} {R : Room} {s : State} {m : MethodId} {args : Array Value} {below : List Frame} {meth : Method} {c : Code} {Q : State → Prop} {B : am_B} {nL : Nat} {hh : List (Nat × Nat × Nat × Nat)} {ad ad1 : Nat → Nat} {u u1 : am_M} {r : am_O × am_M} {c0 s0 : Nat}
    (h : am_kT D cA cl A l p e R s m args below meth c Q B nL hh ad u r c0 s0) (ha : am_ag ad ad1 u.1.length u1.1.length) (hn : u.1.length ≤ u1.1.length) (hn2 : u1.1.length ≤ r.2.1.length) : am_kT D cA cl A l p e R s m args below meth c Q B nL hh ad1 u1 r c0 s0 := by
  intro E u2 ad2 H2 locs2 cl2 sl2 pc2 ls2 rest i n hr hag
  refine h E u2 ad2 H2 locs2 cl2 sl2 pc2 ls2 rest i n hr (ha.tr hag hn ?_)
  rw [hr] at hn2
  exact hn2
set_option maxHeartbeats 4000000 in
/-- a method's contract out of its run -/
theorem am_met {f : Nat} (hl : l.stackTraces = false) (hTB : ∀ w ∈ TB, goodWord w = true) (hNC : am_NcIn NC) (hG : am_G df T MT cl NW TB SR) (hP : am_P X df T MT D cA cl NW TB SR NC A l f) {d2 y2 : Nat} {as : List Value} {u : am_M} {r : am_O × am_M} {ad : Nat → Nat} {yn : MethodName} {b : ByteArray} {nL mc ms : Nat} {ret : Option FieldType} {hj hh : List (Nat × Nat × Nat × Nat)} {B : am_B}
    (hev : am_ev X df T f d2 y2 0 (am_en nL as) [] u = some r) (hMT : MT y2 = some (yn, b, nL, ret, hj)) (hT : T y2 = some (B, nL, hh)) (hen : (am_sl as).length ≤ nL) (hmc : r.2.2.1 = u.2.1 + mc) (hms : r.2.2.2 = u.2.2 + ms) :
    vx_Met l yn (am_wsM yn b nL ret hj TB) { frames := d2 + 8, cells := mc, slots := ms, locals := 60 * d2 + 300 } (am_Pc X D cA cl NW SR NC A ad as u) (am_Qc D cA cl A ad u r) (am_XC D cA cl A ad u r) mc ms A := by
  obtain ⟨hpl, hcode, hval⟩ := hG y2 yn b nL ret hj B hh hMT hT
  have main : ∀ (p : Program) (e : Env) (s : State) (m : MethodId) (args : Array Value) (below : List Frame) (meth : Method) (c : Code) (s₁ : State), BodyLoose p l yn (headSpec (am_wsM yn b nL ret hj TB) { frames := d2 + 8, cells := mc, slots := ms, locals := 60 * d2 + 300 }) b nL ret e s m args below meth c s₁ → c.maxLocals = nL → c.exceptionTable.toList = tableOf hj → am_Pc X D cA cl NW SR NC A ad as u args s →
      W p l e { frames := d2 + 8, cells := mc, slots := ms, locals := 60 * d2 + 300 } s m args below meth c s.heap [] 0 0 (vx_MQ below (am_Qc D cA cl A ad u r) (am_XC D cA cl A ad u r) args s mc ms A) (entryFrame m args nL) := by
    intro p e s m args below meth c s₁ BB hml htab hpc
    obtain ⟨rfl, hEnv, hPw, hDw⟩ := hpc
    have hts0 : ∀ w ∈ am_wsM yn b nL ret hj TB, w.before ((as.map (mv ad)).toArray) s = true := atoms_spec (ws := am_wsM yn b nL ret hj TB) BB.pre
    have hts : ∀ w ∈ TB, w.before ((as.map (mv ad)).toArray) s = true := fun w hw => hts0 w (List.mem_cons_of_mem _ hw)
    have hname : meth.name = yn.name := (name_of_methodNamed BB.named BB.method).1
    obtain ⟨hhj, hok⟩ := hval _ s meth hts hEnv.2.1 hname
    have hown : s.vm.findClass yn.cls = some m.cls := findClass_of_methodNamed BB.named
    have hA := hEnv.2.2.2.2.2.2.2.1
    have hlocks := BB.notSynchronized
    have hN := am_Ncs_of hNC hEnv
    have hl0 := lv_entry (as.map (mv ad)) (n := nL) (by rw [am_sl_len]; exact hen)
    rw [lg_entry_eq]
    generalize (lg_sl (as.map (mv ad)) ++ List.replicate (nL - (lg_sl (as.map (mv ad))).length) Slot.unset).toArray = ls at hl0 ⊢
    have hlL : (am_en nL as).length = nL := by
      unfold am_en
      rw [List.length_append, List.length_replicate]
      omega
    have hfr : ∀ (u2 : am_M) (ad2 : Nat → Nat) (H2 : Heap) (locs2 : List Loc) (t : State), am_ag ad ad2 u.1.length u2.1.length → va_P D cl (mw ad2 cA u2.1) H2 → va_D A (mw ad2 cA u2.1) → va_S A s.heap H2 locs2 → t.heap = H2 → am_Rs D cA cl A ad u u2 s t ad2 := fun u2 ad2 H2 locs2 t h1 h2 h3 h4 h5 => ⟨h1, by rw [h5]; exact h2, h3, h4.F h5⟩
    refine hP d2 y2 0 (am_en nL as) [] u r hev p e _ s m _ below meth c s.heap [] 0 0 _ ad ls yn.cls b nL B hh hj ret u.2.1 u.2.2 hT ⟨BB.exec, BB.bytes, hml, hown, hts⟩ hEnv hN hhj (fun _ => htab) hok hPw hDw va_S.rf (am_has_of hl0 am_en_in) hlL rfl rfl (by rw [hmc]; exact Nat.le_refl _) (by rw [hms]; exact Nat.le_refl _) (Nat.le_refl _) (Nat.le_refl _) ?_ ?_ ?_
    · intro v u2 ad2 H2 locs2 cl2 sl2 pc2 ls2 i n ex hr hag hP2 hD2 hS2 hc2 hs2 hat hrt
      have e1 : cl2 = mc := by rw [hr] at hmc; dsimp only at hmc; omega
      have e2 : sl2 = ms := by rw [hr] at hms; dsimp only at hms; omega
      subst e1; subst e2
      have hokr := hok _ _ hat
      obtain ⟨hd5, r1, r2, r3, r4⟩ := hokr
      refine vx_ret ?_
      have hret := BB.returns
      rcases hrt with ⟨rfl, x, rfl, rfl | ⟨rfl, h01⟩⟩ | ⟨rfl, x, rfl⟩ | ⟨rfl, rfl⟩
      · exact W.iret BB.exec BB.bytes (by rw [hret]; exact r1 rfl rfl) (fun t ht hW => ⟨some (.int x), ad2, by rw [hr], rfl, by rw [hr]; exact hfr u2 ad2 H2 locs2 t hag hP2 hD2 hS2 ht⟩) hS2.2.2 hd5 hlocks
      · exact W.zret (ty := .boolean) BB.exec BB.bytes (by rw [hret]; exact r2 rfl rfl) (am_ft2 (t := .boolean) trivial h01).1 (fun t ht hW => ⟨some (.int x), ad2, by rw [hr], rfl, by rw [hr]; exact hfr u2 ad2 H2 locs2 t hag hP2 hD2 hS2 ht⟩) hS2.2.2 hd5 hlocks
      · exact W.lret BB.exec BB.bytes (by rw [hret]; exact r3 rfl) (fun t ht hW => ⟨some (.long x), ad2, by rw [hr], rfl, by rw [hr]; exact hfr u2 ad2 H2 locs2 t hag hP2 hD2 hS2 ht⟩) hS2.2.2 hd5 hlocks
      · exact W.vret BB.exec BB.bytes (by rw [hret]; exact r4 rfl) (fun t ht hW => ⟨none, ad2, by rw [hr], rfl, by rw [hr]; exact hfr u2 ad2 H2 locs2 t hag hP2 hD2 hS2 ht⟩) hS2.2.2 hd5 hlocks
    · intro E u2 ad2 H2 locs2 cl2 sl2 pc2 ls2 rest q ce hr hE hag hP2 hD2 hS2 hc2 hs2 hq hv hcl hcat
      have e1 : cl2 = mc := by rw [hr] at hmc; dsimp only at hmc; omega
      have e2 : sl2 = ms := by rw [hr] at hms; dsimp only at hms; omega
      subst e1; subst e2
      refine vx_outP hown hlocks (fun z hz => ?_) hq hv hcl (fun t ht hal => ⟨E, ad2, by rw [hr], hE, rfl, by rw [hr]; exact hfr u2 ad2 H2 locs2 t hag hP2 hD2 hS2 ht⟩) hS2.2.2 (Nat.le_refl _) (Nat.le_refl _)
      rw [htab] at hz
      exact am_catch_none hN hE hh hj hhj hcat z hz
    · intro E u2 ad2 H2 locs2 cl2 sl2 pc2 ls2 rest i n hr hag hP2 hD2 hS2 hc2 hs2 hat hhe hsz hrest
      subst hhe
      have hj0 : hj = [] := by
        cases hj with
        | nil => rfl
        | cons z t => exact hhj.elim
      subst hj0
      have e1 : cl2 + 1 = mc := by rw [hr] at hmc; dsimp only at hmc; omega
      have e2 : sl2 + 6 = ms := by rw [hr] at hms; dsimp only at hms; omega
      have htw : am_tw _ s yn.cls SR b pc2 E := hok _ _ hat
      obtain ⟨t0, names, ik, is, ic, text, t1, t2, t3, t4, t5, t6, t7, t8, t9, t10, t11, t12, t13⟩ := htw
      obtain ⟨sa, hsa⟩ := hEnv.2.2.1 _ t6
      refine vx_throwS (text := text) (names := names) (sa := sa) BB.exec BB.bytes hl hown t2 t3 t4 t5 hsa t7 t8 hEnv.2.2.2.1 hEnv.2.2.2.2.1 hS2 (by rw [hsz, hml]) t9 t10 t11 t12 t13 (fun x hx => ?_) (by show names.length + 3 < d2 + 8; omega) (by show _ ≤ 60 * d2 + 300; rw [am_cat_map]; omega) (by show cl2 + 1 ≤ mc; omega) (by show sl2 + 6 ≤ ms; omega) hlocks (fun t hal hz hkeep => ?_) hS2.2.2 (by omega) (by omega)
      · rw [htab] at hx
        cases hx
      · have k1 : va_P D cl (mw ad2 cA u2.1) t.heap := hP2.kept (fun k q hk => hkeep q.1 ((hP2 k q hk).lt))
        have k2 : va_F A s t := ⟨Nat.le_trans hS2.1 hz, fun q h1 h2 => (hkeep q (Nat.lt_of_lt_of_le h1 hS2.1)).trans (hS2.2.1 q h1 h2)⟩
        exact ⟨E, ad2, by rw [hr], t0, rfl, by rw [hr]; exact ⟨hag, k1, hD2, k2⟩⟩
  rcases hcode with ⟨rfl, hc⟩ | ⟨⟨z, t, rfl⟩, hc⟩
  · exact vx_ofW hpl rfl (fun p e s m args below meth c s₁ BB hml ht hpc => main p e s m args below meth c s₁ BB hml (by
      cases hq : c.exceptionTable.toList with
      | nil => rfl
      | cons x xs => exact (ht x (by rw [hq]; exact List.mem_cons_self)).elim) hpc)
  · refine vx_ofWH hpl rfl (fun p e s m args below meth c s₁ BB hml hpc => main p e s m args below meth c s₁ BB hml ?_ hpc)
    have hts0 := atoms_spec (ws := am_wsM yn b nL ret (z :: t) TB) BB.pre
    exact vx_table (x := yn) BB (hts0 _ List.mem_cons_self)
end AM10
