/-! ## 16 the checked tables are the methods' -/
def am_TB : List Cond := lw_tbl.filter goodWord
def am_NWl : List Cond := lw_tbl.filter am_nestB
theorem am_TB_good : ∀ w ∈ am_TB, goodWord w = true := fun w h => (List.mem_filter.mp h).2
theorem am_TB_of {w : Cond} (h : w ∈ lw_tbl) (hg : goodWord w = true) : w ∈ am_TB := List.mem_filter.mpr ⟨h, hg⟩
theorem am_NWl_nest : ∀ w ∈ am_NWl, am_nest w := fun w h => by
  have h2 := (List.mem_filter.mp h).2
  cases w <;> first | (cases h2; done) | skip
  · exact Or.inr (Or.inl ⟨_, _, _, _, rfl⟩)
  · exact Or.inl ⟨_, _, _, _, _, _, rfl⟩
  · exact Or.inr (Or.inr (Or.inl ⟨_, rfl⟩))
  · exact Or.inr (Or.inr (Or.inr ⟨_, _, rfl⟩))
theorem am_nest_on {w : Cond} (h : am_nestB w = true) : w.onTables = true := by
  cases w <;> first | (cases h; done) | rfl
section AM16
variable {args : Array Value} {s : State} {meth : Method}
theorem am_hn_of (hnw : ∀ w ∈ am_NWl, va_Nw w s) {w : Cond} (h : w ∈ lw_tbl) (hb : am_nestB w = true) : w.before args s = true := va_Nw.use (am_nest_on hb) (hnw w (List.mem_filter.mpr ⟨h, hb⟩))
theorem am_flw_eq {own idx ci k : Nat} {C : String} {T : u_T} {N : Nat} (hq : am_cl[ci]? = some (C, T, N)) : am_flw (own, idx, ci, k) = Cond.fieldLink (am_cn own) idx (T k).1 (T k).2.1 (T k).2.2.1 := by
  unfold am_flw
  simp only [hq]
theorem am_fnw_eq {own idx ci k : Nat} {C : String} {T : u_T} {N : Nat} (hq : am_cl[ci]? = some (C, T, N)) : am_fnw (own, idx, ci, k) = Cond.fieldLinkNest (am_cn own) idx (T k).1 (T k).2.1 (T k).2.2.1 "SpinelessHall" := by
  unfold am_fnw
  simp only [hq]
theorem am_ws_TB {ci : Nat} {C : String} {T : u_T} {N : Nat} (hq : am_cl[ci]? = some (C, T, N)) : ∀ w ∈ u_ws C T N, w ∈ am_TB := fun w hw => by
  refine am_TB_of (am_ws_in _ (List.mem_of_getElem? hq) w hw) ?_
  unfold u_ws at hw
  obtain ⟨j, -, rfl⟩ := List.mem_map.mp hw
  unfold u_lay
  split <;> rfl
theorem am_kN_of {ci k : Nat} (h : am_kN ci k = true) : ∃ (C : String) (T : u_T) (N : Nat), am_cl[ci]? = some (C, T, N) ∧ k < N := by
  unfold am_kN at h
  split at h
  · next q hq => exact ⟨q.1, q.2.1, q.2.2, hq, by simpa using h⟩
  · cases h
theorem am_link_of (hts : ∀ w ∈ am_TB, w.before args s = true) (hnw : ∀ w ∈ am_NWl, va_Nw w s) {own idx ci k : Nat} {C : String} {T : u_T} {N : Nat} (hq : am_cl[ci]? = some (C, T, N)) (h : (am_h4 am_FLt own idx ci k || am_h4 am_FNt own idx ci k) = true) :
    (Cond.fieldLink (am_cn own) idx (T k).1 (T k).2.1 (T k).2.2.1).before args s = true ∨ ∃ host : String, (Cond.fieldLinkNest (am_cn own) idx (T k).1 (T k).2.1 (T k).2.2.1 host).before args s = true := by
  rw [Bool.or_eq_true] at h
  rcases h with h | h
  · have h1 : am_flw (own, idx, ci, k) ∈ lw_tbl := am_in0 _ (am_h4_in h)
    rw [am_flw_eq hq] at h1
    exact Or.inl (hts _ (am_TB_of h1 rfl))
  · have h1 : am_fnw (own, idx, ci, k) ∈ lw_tbl := am_in23 _ (am_h4_in h)
    rw [am_fnw_eq hq] at h1
    exact Or.inr ⟨_, am_hn_of hnw h1 rfl⟩
theorem am_ck0_ok (hts : ∀ w ∈ am_TB, w.before args s = true) (hnw : ∀ w ∈ am_NWl, va_Nw w s) {own : Nat} {ex : List Nat} {i : Instr} (h : am_ck0 own ex i = true) : am_wd args s (am_cn own) am_cl am_TB ex i := by
  cases i
  case ldc idx =>
    intro k hk
    subst hk
    exact hts _ (am_TB_of (am_in1 _ (am_h3_in h)) rfl)
  case ldc2_w idx =>
    intro k hk
    subst hk
    exact hts _ (am_TB_of (am_in2 _ (am_h3_in h)) rfl)
  case getfield idx =>
    intro k cis hk ci hci
    subst hk
    have h1 := am_all_mem (l := cis) h hci
    rw [Bool.and_eq_true] at h1
    obtain ⟨C, T, N, hq, hkN⟩ := am_kN_of h1.1
    exact ⟨C, T, N, hq, hkN, am_ws_TB hq, am_link_of hts hnw hq h1.2⟩
  case getstatic idx => exact Or.inr ⟨_, am_hn_of hnw (am_in24 _ (am_h2_in h)) rfl⟩
  all_goals trivial
theorem am_ck1_ok (hts : ∀ w ∈ am_TB, w.before args s = true) (hnw : ∀ w ∈ am_NWl, va_Nw w s) {own : Nat} {ini : Bool} (hini : ini = true → meth.name = "<init>") {ex : List Nat} {i : Instr} (h : am_ck1 own ini ex i = true) : am_wf args s (am_cn own) am_cl am_TB meth ex i := by
  cases i
  case putfield idx =>
    intro k ty cis hk ci hci
    subst hk
    have h1 := am_all_mem (l := cis) h hci
    simp only [Bool.and_eq_true] at h1
    obtain ⟨h2, h3, h4⟩ := h1
    obtain ⟨C, T, N, hq, hkN⟩ := am_kN_of h2
    have hc := am_cls hq
    have hf : am_fin ci k = (T k).2.2.2 := by unfold am_fin; simp only [hq]
    have hd : am_dec ci k = (T k).1 := by unfold am_dec; simp only [hq]
    refine ⟨C, T, N, am_tyf ci, hq, hkN, am_ws_TB hq, fun j hj => (hc.2.1 j hj).1, hc.2.2.1, am_tag_ft h3, ?_⟩
    cases hb : am_fin ci k with
    | false =>
      rw [hb] at h4
      exact Or.inl ⟨by rw [← hf]; exact hb, am_link_of hts hnw hq h4⟩
    | true =>
      rw [hb] at h4
      simp only [Bool.and_eq_true, decide_eq_true_eq] at h4
      have h5 : am_flw (own, idx, ci, k) ∈ lw_tbl := am_in0 _ (am_h4_in h4.2.2)
      rw [am_flw_eq hq] at h5
      exact Or.inr ⟨by rw [← hf]; exact hb, hini h4.1, by rw [← hd]; exact h4.2.1, hts _ (am_TB_of h5 rfl)⟩
  all_goals trivial
theorem am_cz_ok {pc : Nat} : ∀ (os : List Int) (ts : List Nat), am_cz pc os ts = true → ∀ (j t : Nat), ts[j]? = some t → ∃ off, os[j]? = some off ∧ (pc : Int) + off = (t : Int)
  | _, [], _, j, t, h => by cases h
  | [], _ :: _, h, _, _, _ => by cases h
  | o :: r, t0 :: ts, h, j, t, hj => by
    unfold am_cz at h
    rw [Bool.and_eq_true, decide_eq_true_eq] at h
    cases j with
    | zero =>
      cases hj
      exact ⟨o, rfl, h.1⟩
    | succ j => exact am_cz_ok r ts h.2 j t hj
theorem am_clk_ok {pc : Nat} : ∀ (ps : List (Int × Int)) (ts : List Nat), am_clk pc ps ts = true → am_lkok pc ps ts
  | [], [], _ => trivial
  | [], _ :: _, h => by cases h
  | _ :: _, [], h => by cases h
  | (k, o) :: r, t :: ts, h => by
    unfold am_clk at h
    rw [Bool.and_eq_true, decide_eq_true_eq] at h
    exact ⟨h.1, am_clk_ok r ts h.2⟩
theorem am_ck2_ok {pc : Nat} {ex : List Nat} {i : Instr} (h : am_ck2 pc ex i = true) : am_jd pc ex i := by
  cases i
  case goto off =>
    intro t ht
    subst ht
    exact of_decide_eq_true h
  case ifCond c off =>
    intro t ht
    subst ht
    exact of_decide_eq_true h
  case if_icmp c off =>
    intro t ht
    subst ht
    exact of_decide_eq_true h
  case tableswitch a b c d =>
    intro d ts ht
    subst ht
    simp only [am_ck2, Bool.and_eq_true, decide_eq_true_eq] at h
    refine ⟨h.1, fun j t hj => ?_⟩
    obtain ⟨off, h1, h2⟩ := am_cz_ok _ _ h.2 j t hj
    exact ⟨off, by rw [← Array.getElem?_toList]; exact h1, h2⟩
  case lookupswitch a b =>
    intro d ts ht
    subst ht
    simp only [am_ck2, Bool.and_eq_true, decide_eq_true_eq] at h
    exact ⟨h.1, h.2.1, am_clk_ok _ _ h.2.2⟩
  all_goals trivial
theorem am_ck3_ok (hts : ∀ w ∈ am_TB, w.before args s = true) {own : Nat} {ex : List Nat} {i : Instr} (h : am_ck3 own ex i = true) : am_wn args s (am_cn own) am_cl am_TB am_df ex i := by
  cases i
  case new idx =>
    intro ci N hk
    subst hk
    simp only [am_ck3, Bool.and_eq_true] at h
    obtain ⟨h1, h2⟩ := h
    cases hq : am_cl[ci]? with
    | none =>
      rw [hq] at h2
      cases h2
    | some q =>
      rw [hq] at h2
      obtain ⟨C, T, N2⟩ := q
      have hN : N2 = N := Nat.eq_of_beq_eq_true h2
      subst hN
      have hc := am_cls hq
      have h3 : Cond.classLink (am_cn own) idx (am_cn ci) ∈ lw_tbl := am_in15 _ (am_h3_in h1)
      have h4 : Cond.instantiable C N2 ∈ lw_tbl := am_in16 _ (List.mem_of_getElem? hq)
      have hci : ci < 13 := (List.getElem?_eq_some_iff.mp hq).1
      have h5 : Cond.initialized (am_cn ci) ∈ lw_tbl := am_in6 _ (by
        have : ∀ c, c < 13 → am_cn c ∈ am_cnl := by decide +kernel
        exact this ci hci)
      have e1 : C = am_cn ci := hc.1
      refine ⟨C, T, am_tyf ci, rfl, am_ws_TB hq, fun j hj => (hc.2.1 j hj).1, by rw [e1]; exact hts _ (am_TB_of h3 rfl), hts _ (am_TB_of h4 rfl), by rw [e1]; exact hts _ (am_TB_of h5 rfl), fun j hj => (hc.2.1 j hj).2, fun ad => ?_⟩
      have h6 := am_sc_l (ad := fun i => i) (ad2 := ad) (n := 0) (fun i hi => by omega)
      refine (List.map_congr_left (g := id) fun v hv => ?_).trans (List.map_id _)
      have h7 := List.all_eq_true.mp hc.2.2.2 v hv
      cases v
      case ref i =>
        have e2 : (am_df ci).all (fun v => match v with | .ref _ => false | _ => true) = true := by
          have : ∀ c, c < 13 → (am_df c).all (fun v => match v with | .ref _ => false | _ => true) = true := by decide +kernel
          exact this ci hci
        have := List.all_eq_true.mp e2 _ hv
        cases this
      all_goals rfl
  case newarray t =>
    intro k hk
    subst hk
    have hin : Cond.arrayClass (newarray.typeOf t) ∈ lw_tbl → (Cond.arrayClass (newarray.typeOf t)).before args s = true := fun h => hts _ (am_TB_of h rfl)
    have h2 : (k = 0 ∧ t = .int) ∨ (k = 1 ∧ t = .long) ∨ (k = 2 ∧ t = .boolean) := by
      rcases k with _ | _ | _ | k <;> cases t <;> first | exact Or.inl ⟨rfl, rfl⟩ | exact Or.inr (Or.inl ⟨rfl, rfl⟩) | exact Or.inr (Or.inr ⟨rfl, rfl⟩) | cases h
    refine ⟨h2, hin ?_⟩
    rcases h2 with ⟨-, rfl⟩ | ⟨-, rfl⟩ | ⟨-, rfl⟩ <;> exact am_in17 _ (by decide)
  all_goals trivial
theorem am_yn_eq {y : Nat} {q : MethodName × ByteArray × Nat × Option FieldType × List (Nat × Nat × Nat × Nat)} (h : am_Ml[y]? = some q) : am_yn y = q.1 := by
  unfold am_yn
  simp only [h]
theorem am_ck4_ok (hts : ∀ w ∈ am_TB, w.before args s = true) (hnw : ∀ w ∈ am_NWl, va_Nw w s) {T : am_T} {own : Nat} {i : Instr} {kd y2 k : Nat} {cis : List Nat} (h : am_ck4 T own i kd y2 k cis = true) :
    ∃ yn b nL r2 hj B hh, am_MT y2 = some (yn, b, nL, r2, hj) ∧ T y2 = some (B, nL, hh) ∧ nL ≤ 40 ∧ am_cf args s (am_cn own) am_cl am_TB i yn b nL r2 hj k kd cis := by
  have ok : ∀ w ∈ lw_tbl, goodWord w = true → w.before args s = true := fun w h1 h2 => hts w (am_TB_of h1 h2)
  unfold am_ck4 at h
  split at h
  · next q np t hq hnp hT =>
    obtain ⟨yn, b, nL, r2, hj⟩ := q
    obtain ⟨B, nL9, hh⟩ := t
    simp only [Bool.and_eq_true, Nat.beq_eq, Nat.ble_eq] at h
    obtain ⟨h1, h2, h3⟩ := h
    subst h1
    refine ⟨yn, b, nL9, r2, hj, B, hh, hq, hT, h2, ?_⟩
    obtain ⟨g1, g2, g3, -⟩ := am_np hq hnp
    have hy : am_yn y2 = yn := am_yn_eq hq
    have hcd : am_cdw (yn, b, nL9, r2, hj) ∈ lw_tbl := am_in3 _ (List.mem_of_getElem? hq)
    have hini : (Cond.initialized yn.cls).before args s = true := ok _ g3 rfl
    split at h3
    · next idx =>
      simp only [Bool.and_eq_true, Bool.or_eq_true, Nat.beq_eq] at h3
      obtain ⟨rfl, h4, h5⟩ := h3
      have hst : (Cond.static yn).before args s = true := by
        have := am_in4 _ (am_mem_in h4)
        rw [← hy]
        exact ok _ this rfl
      have hsl : am_h3 am_SLt own idx y2 = true → (Cond.methodLink (am_cn own) idx yn).before args s = true := fun h6 => by
        have := am_in8 _ (am_h3_in h6)
        rw [← hy]
        exact ok _ this rfl
      cases hj with
      | nil =>
        refine Or.inl ⟨rfl, rfl, idx, rfl, am_TB_of hcd rfl, hini, g2, g1, hst, ?_⟩
        rcases h5 with h6 | ⟨-, h6⟩
        · exact Or.inl (hsl h6)
        · have := am_in25 _ (am_h3_in h6)
          rw [← hy]
          exact Or.inr ⟨_, am_hn_of hnw this rfl⟩
      | cons z t =>
        refine Or.inr (Or.inl ⟨rfl, ⟨z, t, rfl⟩, idx, rfl, am_TB_of hcd rfl, hini, g2, g1, hst, ?_⟩)
        rcases h5 with h6 | ⟨h6, -⟩
        · exact hsl h6
        · cases h6
    · next idx =>
      simp only [Bool.and_eq_true, Nat.beq_eq] at h3
      obtain ⟨rfl, h4, h5, h6⟩ := h3
      cases hj with
      | cons z t => cases h4
      | nil =>
        have hin : (Cond.instanceMethod yn).before args s = true := by
          have := am_in5 _ (am_mem_in h5)
          rw [← hy]
          exact ok _ this rfl
        refine Or.inr (Or.inr (Or.inl ⟨rfl, rfl, idx, np, rfl, rfl, am_TB_of hcd rfl, hini, fun ci hci => ?_⟩))
        have h7 := am_all_mem h6 hci
        simp only [Bool.and_eq_true, Bool.or_eq_true] at h7
        obtain ⟨h8, h9⟩ := h7
        cases hqc : am_cl[ci]? with
        | none =>
          unfold am_isC at h8
          rw [hqc] at h8
          cases h8
        | some qc =>
          obtain ⟨C, Tc, N⟩ := qc
          have e1 : C = am_cn ci := (am_cls hqc).1
          refine ⟨C, Tc, N, rfl, ?_⟩
          rcases h9 with h9 | h9
          · have m1 := am_in10 _ (am_h4_in h9)
            have m2 := am_in11 _ (am_h4_in h9)
            refine Or.inl ⟨g2, g1, ?_, hin, ?_⟩
            · rw [← hy]
              exact ok _ m1 rfl
            · rw [← hy, e1]
              exact ok _ m2 rfl
          · have m1 := am_in12 _ (am_h4_in h9)
            have m2 := am_in13 _ (am_h4_in h9)
            have m3 := am_in14 _ (am_h4_in h9)
            have g4 : am_xx (own, idx, y2, ci) = ⟨am_cn ci, yn.name, yn.desc⟩ := by
              show (⟨am_cn ci, (am_yn y2).name, (am_yn y2).desc⟩ : MethodName) = _
              rw [hy]
            refine Or.inr ⟨⟨am_cn ci, yn.name, yn.desc⟩, yn.cls, rfl, g2, g1, ?_, ?_, ?_, hin⟩
            · rw [← g4]
              exact ok _ m1 rfl
            · have := ok _ m2 rfl
              have e2 : am_f13 (own, idx, y2, ci) = Cond.sameMethod (am_cn ci) yn.cls yn.name yn.desc := by
                show Cond.sameMethod (am_xx (own, idx, y2, ci)).cls (am_yn y2).cls (am_xx (own, idx, y2, ci)).name (am_xx (own, idx, y2, ci)).desc = _
                rw [g4, hy]
              rw [e2] at this
              exact this
            · have := ok _ m3 rfl
              have e2 : am_f14 (own, idx, y2, ci) = Cond.selects (am_cn ci) ⟨am_cn ci, yn.name, yn.desc⟩ yn := by
                show Cond.selects (am_cn ci) (am_xx (own, idx, y2, ci)) (am_yn y2) = _
                rw [g4, hy]
              rw [e2] at this
              rw [e1]
              exact this
    · next idx =>
      simp only [Bool.and_eq_true, Bool.or_eq_true, Nat.beq_eq] at h3
      obtain ⟨rfl, h4, h5, h6, h7, h8⟩ := h3
      cases hj with
      | cons z t => cases h4
      | nil =>
        cases r2 with
        | some t => cases h5
        | none =>
          have hin : (Cond.instanceMethod yn).before args s = true := by
            have := am_in5 _ (am_mem_in h7)
            rw [← hy]
            exact ok _ this rfl
          have hnm : yn.name = "<init>" := by
            have := List.all_eq_true.mp am_ini_ok _ (am_mem_in h6)
            rw [decide_eq_true_eq, hy] at this
            exact this
          refine Or.inr (Or.inr (Or.inr ⟨rfl, rfl, rfl, idx, np, rfl, rfl, am_TB_of hcd rfl, hini, g2, g1, hnm, hin, ?_⟩))
          rcases h8 with h8 | h8
          · have := am_in9 _ (am_h3_in h8)
            rw [← hy]
            exact Or.inl (ok _ this rfl)
          · have := am_in26 _ (am_h3_in h8)
            rw [← hy]
            exact Or.inr ⟨_, am_hn_of hnw this rfl⟩
    · cases h3
  · cases h
theorem am_vx_ok (hts : ∀ w ∈ am_TB, w.before args s = true) (hnw : ∀ w ∈ am_NWl, va_Nw w s) {L : List Cond} (h1 : ∀ w ∈ L, w ∈ lw_tbl) (h2 : L.all (fun w => (goodWord w || am_nestB w) && vx_ot w) = true) : (∀ w ∈ L, w.before args s = true) ∧ ∀ w ∈ L, vx_ot w = true := by
  refine ⟨fun w hw => ?_, fun w hw => ?_⟩
  · have h3 := List.all_eq_true.mp h2 w hw
    simp only [Bool.and_eq_true, Bool.or_eq_true] at h3
    rcases h3.1 with h4 | h4
    · exact hts w (am_TB_of (h1 w hw) h4)
    · exact am_hn_of hnw (h1 w hw) h4
  · have h3 := List.all_eq_true.mp h2 w hw
    simp only [Bool.and_eq_true] at h3
    exact h3.2
theorem am_ck6_ok (hts : ∀ w ∈ am_TB, w.before args s = true) (hnw : ∀ w ∈ am_NWl, va_Nw w s) {own pc E : Nat} {cc : ByteArray} (h : am_ck6 own cc pc E = true) : am_tw args s (am_cn own) am_SR cc pc E := by
  unfold am_ck6 at h
  rw [Bool.and_eq_true, Bool.and_eq_true, List.any_eq_true] at h
  obtain ⟨h1, h2, ⟨ik, ic, E2⟩, h3, h4⟩ := h
  simp only [Bool.and_eq_true, Nat.beq_eq, decide_eq_true_eq, List.any_eq_true] at h4
  obtain ⟨rfl, d0, d3, ⟨t, ht, d4⟩, d6, d9⟩ := h4
  have ho : own = 11 := Nat.eq_of_beq_eq_true h1
  subst ho
  have hE : E2 < 3 := by simpa using h2
  have hk : (Cond.classLink (am_cn 11) ik (am_xn E2)).before args s = true := hts _ (am_TB_of (am_in22 _ h3) rfl)
  have hini : (Cond.initialized (am_xn E2)).before args s = true := hts _ (am_TB_of (am_in7 E2 (by
    have : ∀ n, n < 3 → n ∈ am_E3 := by decide
    exact this E2 hE)) rfl)
  have hfit : Bundle.fit (am_xn E2) = true := by
    obtain ⟨b0, b1, b2, -⟩ := am_bf
    match E2, hE with
    | 0, _ => exact b0
    | 1, _ => exact b1
    | 2, _ => exact b2
  have hL : (∀ w ∈ vx_atS (am_cn 11) ic (am_xn E2) am_nms, w.before args s = true) ∧ ∀ w ∈ vx_atS (am_cn 11) ic (am_xn E2) am_nms, vx_ot w = true := by
    have h5 : (ik, ic, E2) = (82, 86, 1) ∨ (ik, ic, E2) = (93, 97, 2) ∨ (ik, ic, E2) = (220, 224, 0) := by
      simpa [am_XTt] using h3
    rcases h5 with h5 | h5 | h5
    · cases h5
      exact am_vx_ok hts hnw am_inX0 am_vx0
    · cases h5
      exact am_vx_ok hts hnw am_inX1 am_vx1
    · cases h5
      exact am_vx_ok hts hnw am_inX2 am_vx2
  have htc : t.1 = am_cn 11 := by
    have : ∀ t ∈ am_SR, t.1 = am_cn 11 := by decide +kernel
    exact this t ht
  refine ⟨hE, am_nms, ik, t.2.1, ic, t.2.2, by decide, hfit, am_bf.2.2.2, hk, hini, by rw [← htc]; exact ht, hL.1, fun w hw => ?_, d0, d3, d4, d6, d9⟩
  rcases List.mem_cons.mp hw with rfl | hw
  · rfl
  · rcases List.mem_cons.mp hw with rfl | hw
    · rfl
    · exact hL.2 w hw
theorem am_ckH_ok (hts : ∀ w ∈ am_TB, w.before args s = true) (hnw : ∀ w ∈ am_NWl, va_Nw w s) {own : Nat} : ∀ (hh hj : List (Nat × Nat × Nat × Nat)), am_ckH own hh hj = true → am_hj args s (am_cn own) hh hj
  | [], [], _ => trivial
  | [], _ :: _, h => by cases h
  | _ :: _, [], h => by cases h
  | r :: hh, z :: hj, h => by
    unfold am_ckH at h
    simp only [Bool.and_eq_true, Nat.beq_eq, Nat.blt_eq] at h
    obtain ⟨h1, h2, h3, h4, h5, h6, h7⟩ := h
    refine ⟨h1, h2, h3, by omega, h5, hts _ (am_TB_of (am_in18 _ (am_h3_in h6)) rfl), ?_, am_ckH_ok hts hnw hh hj h7⟩
    exact am_hn_of hnw (am_in27 r.2.2.2 (by
      have : ∀ n, n < 3 → n ∈ am_E3 := by decide
      exact this _ h5)) rfl
theorem am_ckE_ok (hts : ∀ w ∈ am_TB, w.before args s = true) (hnw : ∀ w ∈ am_NWl, va_Nw w s) {T : am_T} {own pc : Nat} {cc : ByteArray} {ret : Option FieldType} {ini : Bool} (hini : ini = true → meth.name = "<init>") {ent : am_I} (h : am_ckE T own cc ret ini pc ent = true) :
    am_ok args s (am_cn own) am_cl am_TB am_SR am_df meth am_MT T cc ret pc ent := by
  unfold am_ckE at h
  split at h
  · simp only [Bool.and_eq_true, decide_eq_true_eq, Nat.beq_eq] at h
    exact ⟨h.1, h.2.1, am_ck0_ok hts hnw h.2.2⟩
  · simp only [Bool.and_eq_true, decide_eq_true_eq, Nat.beq_eq] at h
    exact ⟨h.1, h.2.1, am_ck1_ok hts hnw hini h.2.2⟩
  · simp only [Bool.and_eq_true, decide_eq_true_eq] at h
    refine ⟨h.1, ?_, am_ck2_ok h.2.2⟩
    have h2 := h.2.1
    unfold am_ckL at h2
    split at h2
    · exact Or.inr (Or.inl ⟨_, _, _, _, rfl⟩)
    · exact Or.inr (Or.inr ⟨_, _, rfl⟩)
    · exact Or.inl (Nat.eq_of_beq_eq_true h2)
  · simp only [Bool.and_eq_true, decide_eq_true_eq, Nat.beq_eq] at h
    exact ⟨h.1, h.2.1, am_ck3_ok hts h.2.2⟩
  · simp only [Bool.and_eq_true, decide_eq_true_eq] at h
    exact ⟨h.1, am_ck4_ok hts hnw h.2⟩
  · next i n ex =>
    simp only [Bool.and_eq_true, decide_eq_true_eq] at h
    obtain ⟨h1, h2⟩ := h
    refine ⟨h1, fun e1 e2 => ?_, fun e1 e2 => ?_, fun e1 => ?_, fun e1 => ?_⟩
    · subst e1; subst e2
      exact of_decide_eq_true h2
    · subst e1; subst e2
      exact of_decide_eq_true h2
    · subst e1
      exact of_decide_eq_true h2
    · subst e1
      exact of_decide_eq_true h2
  · exact am_ck6_ok hts hnw h
  · next idx n ex =>
    simp only [Bool.and_eq_true, decide_eq_true_eq] at h
    exact ⟨idx, h.1, hts _ (am_TB_of (am_in19 _ (am_h2_in h.2)) rfl), hts _ (am_TB_of (am_in20 0 (by decide)) rfl), hts _ (am_TB_of (am_in21 0 (by decide)) rfl)⟩
  · have h2 := of_decide_eq_true h
    exact h2
  · cases h
end AM16
