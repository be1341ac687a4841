/-! ## 08 a call of the abstract machine is a call of the machine -/
/-- a method's own words: its code first, then all good words -/
def am_wsM (y : MethodName) (b : ByteArray) (nL : Nat) (ret : Option FieldType) (hj : List (Nat × Nat × Nat × Nat)) (TB : List Cond) : List Cond :=
  (match hj with
  | [] => Cond.code y b nL ret
  | _ :: _ => Cond.codeWith y b nL ret hj) :: TB
def am_mh (y : MethodName) : Prop := y.cls ≠ "java/lang/invoke/MethodHandle" ∧ y.cls ≠ "java/lang/invoke/VarHandle"
/-- what the tables must say for a call -/
def am_cf (args : Array Value) (s : State) (own : String) (cl : List vw_C) (TB : List Cond) (i : Instr) (y : MethodName) (b : ByteArray) (nL : Nat) (ret : Option FieldType) (hj : List (Nat × Nat × Nat × Nat)) (k kd : Nat) (cis : List Nat) : Prop :=
  (kd = 0 ∧ hj = [] ∧ ∃ idx, i = .invokestatic idx ∧ Cond.code y b nL ret ∈ TB ∧ (Cond.initialized y.cls).before args s = true ∧ am_mh y ∧ (∀ sig, parseMethodDescriptor y.desc = some sig → k = sig.parameters.length) ∧ (Cond.static y).before args s = true ∧ ((Cond.methodLink own idx y).before args s = true ∨ ∃ host, (Cond.methodLinkNest own idx y host).before args s = true)) ∨
  (kd = 0 ∧ (∃ z hj2, hj = z :: hj2) ∧ ∃ idx, i = .invokestatic idx ∧ Cond.codeWith y b nL ret hj ∈ TB ∧ (Cond.initialized y.cls).before args s = true ∧ am_mh y ∧ (∀ sig, parseMethodDescriptor y.desc = some sig → k = sig.parameters.length) ∧ (Cond.static y).before args s = true ∧ (Cond.methodLink own idx y).before args s = true) ∨
  (kd = 1 ∧ hj = [] ∧ ∃ idx n, i = .invokevirtual idx ∧ k = n + 1 ∧ Cond.code y b nL ret ∈ TB ∧ (Cond.initialized y.cls).before args s = true ∧ ∀ ci, am_mem ci cis = true → ∃ (C : String) (T : u_T) (N : Nat), cl[ci]? = some (C, T, N) ∧
      ((am_mh y ∧ (∀ sig, parseMethodDescriptor y.desc = some sig → n = sig.parameters.length) ∧ (Cond.methodLink own idx y).before args s = true ∧ (Cond.instanceMethod y).before args s = true ∧ (Cond.selects C y y).before args s = true) ∨
        ∃ (x : MethodName) (owner : String), y = ⟨owner, x.name, x.desc⟩ ∧ (owner ≠ "java/lang/invoke/MethodHandle" ∧ owner ≠ "java/lang/invoke/VarHandle") ∧ (∀ sig, parseMethodDescriptor x.desc = some sig → n = sig.parameters.length) ∧ (Cond.methodLink own idx x).before args s = true ∧ (Cond.sameMethod x.cls owner x.name x.desc).before args s = true ∧ (Cond.selects C x y).before args s = true ∧ (Cond.instanceMethod y).before args s = true)) ∨
  (kd = 2 ∧ hj = [] ∧ ret = none ∧ ∃ idx n, i = .invokespecial idx ∧ k = n + 1 ∧ Cond.code y b nL none ∈ TB ∧ (Cond.initialized y.cls).before args s = true ∧ am_mh y ∧ (∀ sig, parseMethodDescriptor y.desc = some sig → n = sig.parameters.length) ∧ y.name = "<init>" ∧ (Cond.instanceMethod y).before args s = true ∧ ((Cond.methodLink own idx y).before args s = true ∨ ∃ host, (Cond.methodLinkNest own idx y host).before args s = true))
theorem am_cat_map (ad : Nat → Nat) (vs : List Value) : ((vs.map (mv ad)).map fun v => v.category).sum = (vs.map Value.category).sum := by
  induction vs with
  | nil => rfl
  | cons v vs ih =>
    simp only [List.map_cons, List.sum_cons, mv_cat]
    rw [ih]
section AM8
variable {p : Program} {l : Launch} {e : Env} {R : Room} {s : State} {m : MethodId} {args : Array Value} {below : List Frame} {meth : Method} {c : Code} {H : Heap} {locs : List Loc} {cells slots : Nat}
variable {cc : ByteArray} {pc : Nat} {ls : Array Slot} {D : va_G} {cl : List vw_C} {A : Nat → Prop} {ad : Nat → Nat} {cA : Nat → ClassId} {nL : Nat} {own : String} {TB : List Cond}
variable {st as rest : List Value} {h : List am_E} {i : Instr} {y : MethodName} {b : ByteArray} {nL2 : Nat} {ret : Option FieldType} {hj : List (Nat × Nat × Nat × Nat)} {k kd mc ms : Nat} {cis : List Nat}
variable {rm : Room} {Pc : Array Value → State → Prop} {Qc : Array Value → State → Outcome → State → Prop} {XC : String → State → State → Prop}
set_option maxHeartbeats 4000000 in
theorem am_run_ok (hf : am_cf args s own cl TB i y b nL2 ret hj k kd cis) (hTB : ∀ w ∈ TB, goodWord w = true) (S : CallFix p m c cc nL s args TB own) (hM : vx_Met l y (am_wsM y b nL2 ret hj TB) rm Pc Qc XC mc ms A)
    (hrc : rm.cells = mc) (hrs : rm.slots = ms) (hfr : rm.frames + 1 ≤ R.frames) (hlo : 8 + (nL2 + 11) + rm.locals ≤ R.locals) (hPb : FrameBlind Pc) (hPu : ∀ U : State, U.heap = H → s.WarmedH U.vm → Pc (as.map (mv ad)).toArray U)
    (hrcv : kd = 0 ∨ am_rc as h cis = true) (hK : va_K D cl (am_tys cA) s) (hP : va_P D cl (mw ad cA h) H) (hst : st = as.reverse ++ rest) (has : as.length = k) (hcat : (rest.map Value.category).sum ≤ 8)
    (hd : decode cc pc = .ok (i, 3)) (hsz : ls.size = nL) (hroom : cells + mc ≤ R.cells ∧ slots + ms ≤ R.slots) :
    vx_Run p l e R s m args below meth c H locs cells slots mc ms (F0 m pc ls (st.map (mv ad))) (rest.map (mv ad)) (Qc (as.map (mv ad)).toArray) XC A := by
  have hcat2 : 2 * (F0 m pc ls (st.map (mv ad))).monitorRoom + ((rest.map (mv ad)).map fun v => v.category).sum ≤ 8 := lv_room (by rw [am_cat_map]; exact hcat)
  have hts := S.2.2.2.2
  have hpay : ∀ w0, w0 ∈ TB → ∀ w ∈ w0 :: TB, ∀ (a' : Array Value) (U : State), s.WarmedH U.vm → w.before a' U = true := fun w0 h0 w hw a' U hW => by
    rcases List.mem_cons.mp hw with rfl | hw
    · exact word_at hW (good_of_word (hTB _ h0)) (hts _ h0)
    · exact word_at hW (good_of_word (hTB _ hw)) (hts _ hw)
  rcases hf with ⟨rfl, rfl, idx, rfl, hc, hini, hmh, hlen, hstat, hlink⟩ | ⟨rfl, ⟨z, hj2, rfl⟩, idx, rfl, hc, hini, hmh, hlen, hstat, hlink⟩ | ⟨rfl, rfl, idx, n, rfl, rfl, hc, hini, hcis⟩ | ⟨rfl, rfl, rfl, idx, n, rfl, rfl, hc, hini, hmh, hlen, hy1, hinst, hlink⟩
  · have hstk : (F0 m pc ls (st.map (mv ad))).stack = (as.map (mv ad)).reverse ++ rest.map (mv ad) := by
      show st.map (mv ad) = _
      rw [hst, List.map_append, List.map_reverse]
    have hn : (as.map (mv ad)).length = k := by rw [List.length_map]; exact has
    rcases hlink with hlink | ⟨host, hlink⟩
    · exact vx_runS S hM ⟨⟨hrc, hrs, hfr, hlo, hpay _ hc, List.mem_cons_self, hts _ hc, hini, hmh, hlen, hlink⟩, hstat⟩ ⟨hPb, hPu⟩ rfl hn hsz hstk hcat2 hd hroom
    · exact vx_runSN S hM ⟨⟨⟨hrc, hrs, hfr, hlo, hpay _ hc, List.mem_cons_self⟩, hts _ hc, hini, hmh, hlen, hlink⟩, hstat, trivial⟩ ⟨hPb, hPu⟩ rfl hn hsz hstk hcat2 hd hroom
  · have hstk : (F0 m pc ls (st.map (mv ad))).stack = (as.map (mv ad)).reverse ++ rest.map (mv ad) := by
      show st.map (mv ad) = _
      rw [hst, List.map_append, List.map_reverse]
    have hn : (as.map (mv ad)).length = k := by rw [List.length_map]; exact has
    exact vx_runSX S hM ⟨⟨hrc, hrs, hfr, hlo, hpay _ hc, List.mem_cons_self⟩, hts _ hc, hini, hmh, hlen, hlink, hstat⟩ ⟨hPb, hPu⟩ rfl hn hsz hstk hcat2 hd hroom
  · rcases hrcv with hrcv | hrcv
    · cases hrcv
    · unfold am_rc at hrcv
      split at hrcv
      · next a As =>
        split at hrcv
        · next ci fs hh =>
          obtain ⟨C, T, N, hcl, hsel⟩ := hcis ci hrcv
          have hrec := va_recv hK hP hcl (mw_get hh)
          have hstk : (F0 m pc ls (st.map (mv ad))).stack = (As.map (mv ad)).reverse ++ .ref (ad a) :: rest.map (mv ad) := by
            show st.map (mv ad) = _
            rw [hst, List.reverse_cons, List.append_assoc, List.map_append, List.map_reverse]
            rfl
          have hn : (As.map (mv ad)).length = n := by
            rw [List.length_map]
            rw [List.length_cons] at has
            omega
          rcases hsel with ⟨hmh, hlen, hlink, hinst, hsel⟩ | ⟨x, owner, hyx, hmh, hlen, hlink, hsame, hsel, hinst⟩
          · exact vx_runV (C := C) (b := ad a) (As := As.map (mv ad)) S hM ⟨⟨hrc, hrs, hfr, hlo, hpay _ hc, List.mem_cons_self, hts _ hc, hini, hmh, hlen, hlink⟩, hinst, hsel⟩ ⟨hPb, hrec, hPu⟩ rfl hn hsz hstk hcat2 hd hroom
          · have hdecl : va_Decl s ⟨owner, x.name, x.desc⟩ := by
              rw [← hyx]
              exact va_Decl.of hinst (hts _ hc)
            exact vx_runU (C := C) (owner := owner) (x := x) (b := ad a) (As := As.map (mv ad)) S hM ⟨⟨hrc, hrs, hfr, hlo, hpay _ hc, List.mem_cons_self⟩, hts _ hc, hini, hmh, hlen, hlink, hsame, hdecl, hsel, hinst⟩ ⟨hPb, hrec, hPu⟩ rfl hn hsz hstk hcat2 hd hroom
        · cases hrcv
      · cases hrcv
  · rcases hrcv with hrcv | hrcv
    · cases hrcv
    · unfold am_rc at hrcv
      split at hrcv
      · next a As =>
        have hstk : (F0 m pc ls (st.map (mv ad))).stack = (As.map (mv ad)).reverse ++ .ref (ad a) :: rest.map (mv ad) := by
          show st.map (mv ad) = _
          rw [hst, List.reverse_cons, List.append_assoc, List.map_append, List.map_reverse]
          rfl
        have hn : (As.map (mv ad)).length = n := by
          rw [List.length_map]
          rw [List.length_cons] at has
          omega
        rcases hlink with hlink | ⟨host, hlink⟩
        · exact vx_runI (b := ad a) (As := As.map (mv ad)) S hM ⟨⟨hrc, hrs, hfr, hlo, hpay _ hc, List.mem_cons_self, hts _ hc, hini, hmh, hlen, hlink⟩, hy1, hinst⟩ ⟨hPb, hPu⟩ rfl hn hsz hstk hcat2 hd hroom
        · exact vx_runIN (b := ad a) (As := As.map (mv ad)) S hM ⟨⟨⟨hrc, hrs, hfr, hlo, hpay _ hc, List.mem_cons_self⟩, hts _ hc, hini, hmh, hlen, hlink⟩, hy1, hinst⟩ ⟨hPb, hPu⟩ rfl hn hsz hstk hcat2 hd hroom
      · cases hrcv
end AM8
