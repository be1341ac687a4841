/-! ## 15 the checker of the tables, and what it says -/
def am_h2 (l : List (Nat × Nat)) (a b : Nat) : Bool := l.any fun e => Nat.beq e.1 a && Nat.beq e.2 b
theorem am_h2_in {l : List (Nat × Nat)} {a b : Nat} (h : am_h2 l a b = true) : (a, b) ∈ l := by
  obtain ⟨⟨x, y⟩, h1, h2⟩ := List.any_eq_true.mp h
  simp only [Bool.and_eq_true, Nat.beq_eq] at h2
  obtain ⟨rfl, rfl⟩ := h2
  exact h1
def am_h3 (l : List (Nat × Nat × Nat)) (a b c : Nat) : Bool := l.any fun e => Nat.beq e.2.1 b && (Nat.beq e.1 a && Nat.beq e.2.2 c)
theorem am_h3_in {l : List (Nat × Nat × Nat)} {a b c : Nat} (h : am_h3 l a b c = true) : (a, b, c) ∈ l := by
  obtain ⟨⟨x, y, z⟩, h1, h2⟩ := List.any_eq_true.mp h
  simp only [Bool.and_eq_true, Nat.beq_eq] at h2
  obtain ⟨rfl, rfl, rfl⟩ := h2
  exact h1
def am_h4 (l : List (Nat × Nat × Nat × Nat)) (a b c d : Nat) : Bool := l.any fun e => Nat.beq e.2.1 b && (Nat.beq e.1 a && (Nat.beq e.2.2.1 c && Nat.beq e.2.2.2 d))
theorem am_h4_in {l : List (Nat × Nat × Nat × Nat)} {a b c d : Nat} (h : am_h4 l a b c d = true) : (a, b, c, d) ∈ l := by
  obtain ⟨⟨x, y, z, w⟩, h1, h2⟩ := List.any_eq_true.mp h
  simp only [Bool.and_eq_true, Nat.beq_eq] at h2
  obtain ⟨rfl, rfl, rfl, rfl⟩ := h2
  exact h1
theorem am_mem_in {c : Nat} : ∀ {l : List Nat}, am_mem c l = true → c ∈ l
  | [], h => by cases h
  | a :: t, h => by
    unfold am_mem at h
    cases hb : Nat.beq a c with
    | true => rw [Nat.eq_of_beq_eq_true hb]; exact List.mem_cons_self
    | false =>
      rw [hb] at h
      exact List.mem_cons_of_mem _ (am_mem_in h)
theorem am_all_mem {c : Nat} {l : List Nat} {p : Nat → Bool} (h : l.all p = true) (hc : am_mem c l = true) : p c = true := List.all_eq_true.mp h c (am_mem_in hc)
def am_kN (ci k : Nat) : Bool := match am_cl[ci]? with
  | some q => Nat.blt k q.2.2
  | none => false
def am_tag : Nat → FieldType → Bool
  | 0, .int => true
  | 1, .long => true
  | 2, .boolean => true
  | 3, .object _ => true
  | 3, .array _ => true
  | _, _ => false
theorem am_tag_ft {n : Nat} {t : FieldType} (h : am_tag n t = true) : am_ft n t := by
  unfold am_tag at h
  split at h <;> first | trivial | cases h
def am_tyf (ci : Nat) : Nat → FieldType := am_tl.getD ci (fun _ => .int)
def am_fin (ci k : Nat) : Bool := match am_cl[ci]? with
  | some q => (q.2.1 k).2.2.2
  | none => false
def am_dec (ci k : Nat) : String := match am_cl[ci]? with
  | some q => (q.2.1 k).1
  | none => ""
def am_ck0 (own : Nat) (ex : List Nat) : Instr → Bool
  | .ldc idx => match ex with
    | [k] => am_h3 am_LIt own idx k
    | _ => false
  | .ldc2_w idx => match ex with
    | [k] => am_h3 am_LJt own idx k
    | _ => false
  | .getfield idx => match ex with
    | k :: cis => cis.all fun ci => am_kN ci k && (am_h4 am_FLt own idx ci k || am_h4 am_FNt own idx ci k)
    | _ => false
  | .getstatic idx => am_h2 am_STt own idx
  | _ => true
def am_ck1 (own : Nat) (ini : Bool) (ex : List Nat) : Instr → Bool
  | .putfield idx => match ex with
    | k :: ty :: cis => cis.all fun ci => am_kN ci k && (am_tag ty (am_tyf ci k) && (match am_fin ci k with
      | false => am_h4 am_FLt own idx ci k || am_h4 am_FNt own idx ci k
      | true => ini && (decide (am_dec ci k = am_cn own) && am_h4 am_FLt own idx ci k)))
    | _ => false
  | _ => true
def am_ckL (i : Instr) (n : Nat) : Bool := match i with
  | .tableswitch _ _ _ _ => true
  | .lookupswitch _ _ => true
  | _ => Nat.beq (am_len i) n
def am_cz (pc : Nat) : List Int → List Nat → Bool
  | _, [] => true
  | o :: r, t :: ts => decide ((pc : Int) + o = (t : Int)) && am_cz pc r ts
  | [], _ :: _ => false
def am_clk (pc : Nat) : List (Int × Int) → List Nat → Bool
  | (_, o) :: r, t :: ts => decide ((pc : Int) + o = (t : Int)) && am_clk pc r ts
  | [], [] => true
  | _, _ => false
def am_ck2 (pc : Nat) (ex : List Nat) : Instr → Bool
  | .goto off => match ex with
    | [t] => decide ((pc : Int) + off = (t : Int))
    | _ => false
  | .ifCond _ off => match ex with
    | [t] => decide ((pc : Int) + off = (t : Int))
    | _ => false
  | .if_icmp _ off => match ex with
    | [t] => decide ((pc : Int) + off = (t : Int))
    | _ => false
  | .tableswitch dflt _ _ offs => match ex with
    | d :: ts => decide ((pc : Int) + dflt = (d : Int)) && am_cz pc offs.toList ts
    | _ => false
  | .lookupswitch dflt ps => match ex with
    | d :: ts => decide ((pc : Int) + dflt = (d : Int)) && ((ps.toList.zip (ps.toList.drop 1)).all (fun (a, next) => a.1 < next.1) && am_clk pc ps.toList ts)
    | _ => false
  | _ => true
def am_ck3 (own : Nat) (ex : List Nat) : Instr → Bool
  | .new idx => match ex with
    | [ci, N] => am_h3 am_NWt own idx ci && (match am_cl[ci]? with
      | some q => Nat.beq q.2.2 N
      | none => false)
    | _ => false
  | .newarray t => match ex, t with
    | [0], .int => true
    | [1], .long => true
    | [2], .boolean => true
    | _, _ => false
  | _ => true
def am_isC (ci : Nat) : Bool := match am_cl[ci]? with
  | some _ => true
  | none => false
def am_ck4 (T : am_T) (own : Nat) (i : Instr) (kd y2 k : Nat) (cis : List Nat) : Bool := match am_Ml[y2]?, am_npl[y2]?, T y2 with
  | some q, some np, some t => Nat.beq t.2.1 q.2.2.1 && (Nat.ble q.2.2.1 40 && (match kd, i with
    | 0, .invokestatic idx => Nat.beq k np && (am_mem y2 am_smt && (am_h3 am_SLt own idx y2 || (q.2.2.2.2.isEmpty && am_h3 am_SNt own idx y2)))
    | 1, .invokevirtual idx => Nat.beq k (np + 1) && (q.2.2.2.2.isEmpty && (am_mem y2 am_imt && cis.all fun ci => am_isC ci && (am_h4 am_VLt own idx y2 ci || am_h4 am_ULt own idx y2 ci)))
    | 2, .invokespecial idx => Nat.beq k (np + 1) && (q.2.2.2.2.isEmpty && (q.2.2.2.1.isNone && (am_mem y2 am_ini && (am_mem y2 am_imt && (am_h3 am_ILt own idx y2 || am_h3 am_INt own idx y2)))))
    | _, _ => false))
  | _, _, _ => false
def am_ck5 (ret : Option FieldType) (ex : List Nat) : Instr → Bool
  | .ireturn => match ex with
    | [0] => decide (ret = some .int)
    | [1] => decide (ret = some .boolean)
    | _ => true
  | .lreturn => decide (ret = some .long)
  | .return_ => decide (ret = none)
  | _ => true
def am_ck6 (own : Nat) (cc : ByteArray) (pc E : Nat) : Bool := Nat.beq own 11 && (Nat.blt E 3 && am_XTt.any fun e => Nat.beq e.2.2 E && (decide (decode cc pc = .ok (.new e.1, 3)) && (decide (decode cc (pc + 3) = .ok (.dup, 1)) && (am_SR.any (fun t => decide (decode cc (pc + 4) = .ok (.ldc t.2.1, 2))) && (decide (decode cc (pc + 6) = .ok (.invokespecial e.2.1, 3)) && decide (decode cc (pc + 9) = .ok (.athrow, 1)))))))
def am_ckE (T : am_T) (own : Nat) (cc : ByteArray) (ret : Option FieldType) (ini : Bool) (pc : Nat) : am_I → Bool
  | (0, i, n, ex) => decide (decode cc pc = .ok (i, am_len i)) && (Nat.beq n (am_len i) && am_ck0 own ex i)
  | (1, i, n, ex) => decide (decode cc pc = .ok (i, am_len i)) && (Nat.beq n (am_len i) && am_ck1 own ini ex i)
  | (2, i, n, ex) => decide (decode cc pc = .ok (i, n)) && (am_ckL i n && am_ck2 pc ex i)
  | (3, i, n, ex) => decide (decode cc pc = .ok (i, am_len i)) && (Nat.beq n (am_len i) && am_ck3 own ex i)
  | (4, i, _, kd :: y2 :: k :: cis) => decide (decode cc pc = .ok (i, 3)) && am_ck4 T own i kd y2 k cis
  | (5, i, _, ex) => decide (decode cc pc = .ok (i, 1)) && am_ck5 ret ex i
  | (6, _, _, [E]) => am_ck6 own cc pc E
  | (7, .invokespecial idx, _, _) => decide (decode cc pc = .ok (.invokespecial idx, 3)) && am_h2 am_OLt own idx
  | (8, i, n, _) => decide (decode cc pc = .ok (i, n))
  | _ => false
def am_ckH (own : Nat) : List (Nat × Nat × Nat × Nat) → List (Nat × Nat × Nat × Nat) → Bool
  | r :: hh, z :: hj => Nat.beq r.1 z.1 && (Nat.beq r.2.1 z.2.1 && (Nat.beq r.2.2.1 z.2.2.1 && (Nat.blt 0 z.2.2.2 && (Nat.blt r.2.2.2 3 && (am_h3 am_HLt own z.2.2.2 r.2.2.2 && am_ckH own hh hj)))))
  | [], [] => true
  | _, _ => false
/-! what is decided once of the tables -/
theorem am_cls_ok : (List.range 13).all (fun ci => match am_cl[ci]? with
  | some q => decide (q.1 = am_cn ci) && ((List.range q.2.2).all (fun j => decide (parseFieldDescriptor (q.2.1 j).2.2.1 = some (am_tyf ci j)) && decide (defaultValue (am_tyf ci j) = vp_V (am_df ci) j)) && ((List.range q.2.2).all (fun a => (List.range q.2.2).all fun b => decide (a = b ∨ (q.2.1 a).2.1 ≠ (q.2.1 b).2.1)) && (am_df ci).all (am_scV 0)))
  | none => false) = true := by decide +kernel
theorem am_cls {ci : Nat} {q : vw_C} (h : am_cl[ci]? = some q) : q.1 = am_cn ci ∧ (∀ j, j < q.2.2 → parseFieldDescriptor (q.2.1 j).2.2.1 = some (am_tyf ci j) ∧ defaultValue (am_tyf ci j) = vp_V (am_df ci) j) ∧ (∀ a, a < q.2.2 → ∀ b, b < q.2.2 → a ≠ b → (q.2.1 a).2.1 ≠ (q.2.1 b).2.1) ∧ (am_df ci).all (am_scV 0) = true := by
  have hlt : ci < 13 := (List.getElem?_eq_some_iff.mp h).1
  have h1 := List.all_eq_true.mp am_cls_ok ci (List.mem_range.mpr hlt)
  rw [h] at h1
  simp only [Bool.and_eq_true, decide_eq_true_eq, List.all_eq_true, List.mem_range] at h1
  obtain ⟨a1, a2, a3, a4⟩ := h1
  refine ⟨a1, a2, fun a ha b hb hne => ?_, List.all_eq_true.mpr a4⟩
  rcases a3 a ha b hb with h | h
  · exact absurd h hne
  · exact h
theorem am_ws_in : ∀ q ∈ am_cl, ∀ w ∈ u_ws q.1 q.2.1 q.2.2, w ∈ lw_tbl := List.forall_mem_cons.mpr ⟨am_inF0, List.forall_mem_cons.mpr ⟨am_inF1, List.forall_mem_cons.mpr ⟨am_inF2, List.forall_mem_cons.mpr ⟨am_inF3, List.forall_mem_cons.mpr ⟨am_inF4, List.forall_mem_cons.mpr ⟨am_inF5, List.forall_mem_cons.mpr ⟨am_inF6, List.forall_mem_cons.mpr ⟨am_inF7, List.forall_mem_cons.mpr ⟨am_inF8, List.forall_mem_cons.mpr ⟨am_inF9, List.forall_mem_cons.mpr ⟨am_inF10, List.forall_mem_cons.mpr ⟨am_inF11, List.forall_mem_cons.mpr ⟨am_inF12, fun _ h => absurd h List.not_mem_nil⟩⟩⟩⟩⟩⟩⟩⟩⟩⟩⟩⟩⟩
theorem am_np_ok : (am_Ml.zip am_npl).all (fun e => decide ((parseMethodDescriptor e.1.1.desc).map (fun d => d.parameters.length) = some e.2) && (decide (e.1.1.cls ≠ "java/lang/invoke/MethodHandle" ∧ e.1.1.cls ≠ "java/lang/invoke/VarHandle") && (decide (e.1.1.cls ∈ am_cnl) && plainName e.1.1.cls))) = true := by decide +kernel
theorem am_np_len : am_Ml.length = am_npl.length := by decide +kernel
theorem am_np {y np : Nat} {q : MethodName × ByteArray × Nat × Option FieldType × List (Nat × Nat × Nat × Nat)} (h : am_Ml[y]? = some q) (h2 : am_npl[y]? = some np) : (∀ sig, parseMethodDescriptor q.1.desc = some sig → np = sig.parameters.length) ∧ am_mh q.1 ∧ Cond.initialized q.1.cls ∈ lw_tbl ∧ plainName q.1.cls = true := by
  have hz : (am_Ml.zip am_npl)[y]? = some (q, np) := by rw [List.getElem?_zip_eq_some]; exact ⟨h, h2⟩
  have h3 := List.all_eq_true.mp am_np_ok _ (List.mem_of_getElem? hz)
  simp only [Bool.and_eq_true, decide_eq_true_eq] at h3
  obtain ⟨a1, a2, a3, a4⟩ := h3
  refine ⟨fun sig hs => ?_, a2, am_in6 _ a3, a4⟩
  rw [hs] at a1
  exact (Option.some.inj a1).symm
theorem am_ini_ok : am_ini.all (fun y => decide ((am_yn y).name = "<init>")) = true := by decide +kernel
theorem am_ULt_ok : am_ULt.all (fun e => decide ((am_yn e.2.2.1).cls ≠ "java/lang/invoke/MethodHandle" ∧ (am_yn e.2.2.1).cls ≠ "java/lang/invoke/VarHandle")) = true := by decide +kernel
def am_nestB : Cond → Bool
  | .fieldLinkNest _ _ _ _ _ _ => true
  | .methodLinkNest _ _ _ _ => true
  | .declares _ => true
  | .castable _ _ => true
  | _ => false
theorem am_vx0 : (vx_atS "SpinelessHall" 86 (am_xn 1) am_nms).all (fun w => (goodWord w || am_nestB w) && vx_ot w) = true := by decide +kernel
theorem am_vx1 : (vx_atS "SpinelessHall" 97 (am_xn 2) am_nms).all (fun w => (goodWord w || am_nestB w) && vx_ot w) = true := by decide +kernel
theorem am_vx2 : (vx_atS "SpinelessHall" 224 (am_xn 0) am_nms).all (fun w => (goodWord w || am_nestB w) && vx_ot w) = true := by decide +kernel
theorem am_bf : Bundle.fit (am_xn 0) = true ∧ Bundle.fit (am_xn 1) = true ∧ Bundle.fit (am_xn 2) = true ∧ ∀ n ∈ am_nms, Bundle.fit n = true := by decide +kernel
