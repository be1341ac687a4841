/-! ## 13 the words that the tables name, among the law's words by their places (printed by wip/whole/gen12.py) -/
def am_yn (y : Nat) : MethodName := match am_Ml[y]? with
  | some q => q.1
  | none => ⟨"", "", ""⟩
def am_xx (e : Nat × Nat × Nat × Nat) : MethodName := ⟨am_cn e.2.2.2, (am_yn e.2.2.1).name, (am_yn e.2.2.1).desc⟩
def am_flw (e : Nat × Nat × Nat × Nat) : Cond := match am_cl[e.2.2.1]? with
  | some q => Cond.fieldLink (am_cn e.1) e.2.1 (q.2.1 e.2.2.2).1 (q.2.1 e.2.2.2).2.1 (q.2.1 e.2.2.2).2.2.1
  | none => Cond.initialized ""
def am_fnw (e : Nat × Nat × Nat × Nat) : Cond := match am_cl[e.2.2.1]? with
  | some q => Cond.fieldLinkNest (am_cn e.1) e.2.1 (q.2.1 e.2.2.2).1 (q.2.1 e.2.2.2).2.1 (q.2.1 e.2.2.2).2.2.1 "SpinelessHall"
  | none => Cond.fieldLinkNest "" 0 "" "" "" ""
def am_mlw (e : Nat × Nat × Nat) : Cond := Cond.methodLink (am_cn e.1) e.2.1 (am_yn e.2.2)
def am_mnw (e : Nat × Nat × Nat) : Cond := Cond.methodLinkNest (am_cn e.1) e.2.1 (am_yn e.2.2) "SpinelessHall"
def am_cdw (q : MethodName × ByteArray × Nat × Option FieldType × List (Nat × Nat × Nat × Nat)) : Cond := match q.2.2.2.2 with
  | [] => Cond.code q.1 q.2.1 q.2.2.1 q.2.2.2.1
  | z :: t => Cond.codeWith q.1 q.2.1 q.2.2.1 q.2.2.2.1 (z :: t)
def am_E3 : List Nat := [0, 1, 2]
def am_one : List Nat := [0]
def am_aty : List FieldType := [.int, .long, .boolean]
def am_tbs : Nat → List Cond
  | 0 => k2_sels lw_privs
  | 1 => tables_1_1
  | 2 => tables_1_2
  | 3 => tables_1_3
  | 4 => tables_1_4
  | 5 => tables_1_5
  | 6 => tables_1_6
  | 7 => tables_1_7
  | 8 => tables_1_8
  | _ => tables_1_9
theorem am_tbs_in (k : Nat) : ∀ w ∈ am_tbs k, w ∈ lw_tbl := by
  have h1 : ∀ w ∈ tables_1, w ∈ lw_tbl := fun w h => List.mem_append_right _ h
  intro w h
  match k, h with
  | 0, h => exact List.mem_append_left _ h
  | 1, h => exact h1 w (List.mem_append_left _ h)
  | 2, h => exact h1 w (List.mem_append_right _ (List.mem_append_left _ h))
  | 3, h => exact h1 w (List.mem_append_right _ (List.mem_append_right _ (List.mem_append_left _ h)))
  | 4, h => exact h1 w (List.mem_append_right _ (List.mem_append_right _ (List.mem_append_right _ (List.mem_append_left _ h))))
  | 5, h => exact h1 w (List.mem_append_right _ (List.mem_append_right _ (List.mem_append_right _ (List.mem_append_right _ (List.mem_append_left _ h)))))
  | 6, h => exact h1 w (List.mem_append_right _ (List.mem_append_right _ (List.mem_append_right _ (List.mem_append_right _ (List.mem_append_right _ (List.mem_append_left _ h))))))
  | 7, h => exact h1 w (List.mem_append_right _ (List.mem_append_right _ (List.mem_append_right _ (List.mem_append_right _ (List.mem_append_right _ (List.mem_append_right _ (List.mem_append_left _ h)))))))
  | 8, h => exact h1 w (List.mem_append_right _ (List.mem_append_right _ (List.mem_append_right _ (List.mem_append_right _ (List.mem_append_right _ (List.mem_append_right _ (List.mem_append_right _ (List.mem_append_left _ h))))))))
  | n + 9, h => exact h1 w (List.mem_append_right _ (List.mem_append_right _ (List.mem_append_right _ (List.mem_append_right _ (List.mem_append_right _ (List.mem_append_right _ (List.mem_append_right _ (List.mem_append_right _ h))))))))
def am_nth : List Cond → Nat → Option Cond
  | [], _ => none
  | a :: _, 0 => some a
  | _ :: t, n + 1 => am_nth t n
theorem am_nth_in : ∀ (l : List Cond) (n : Nat) (w : Cond), am_nth l n = some w → w ∈ l
  | [], _, _, h => by cases h
  | a :: _, 0, w, h => by cases h; exact List.mem_cons_self
  | _ :: t, n + 1, w, h => List.mem_cons_of_mem _ (am_nth_in t n w h)
theorem am_pickF {α : Type} (f : α → Cond) : ∀ (l : List α) (ps : List (Nat × Nat)), l.map (fun e => some (f e)) = ps.map (fun q => am_nth (am_tbs q.1) q.2) → ∀ e ∈ l, f e ∈ lw_tbl
  | [], _, _, e, he => by cases he
  | a :: l, [], h, e, he => by cases h
  | a :: l, q :: ps, h, e, he => by
    rw [List.map_cons, List.map_cons, List.cons.injEq] at h
    rcases List.mem_cons.mp he with rfl | he
    · exact am_tbs_in _ _ (am_nth_in _ _ _ h.1.symm)
    · exact am_pickF f l ps h.2 e he
theorem am_pickW (l : List Cond) (ps : List (Nat × Nat)) (h : l.map some = ps.map (fun q => am_nth (am_tbs q.1) q.2)) : ∀ w ∈ l, w ∈ lw_tbl := am_pickF id l ps h
def am_f0 : Nat × Nat × Nat × Nat → Cond := am_flw
set_option maxRecDepth 1000000 in
set_option maxHeartbeats 8000000 in
theorem am_in0_0 : ∀ e ∈ am_FLt_0, am_f0 e ∈ lw_tbl := am_pickF am_f0 _ [(1, 80), (1, 82), (1, 83), (1, 85), (1, 86), (1, 87), (1, 79), (1, 84), (1, 88), (1, 40), (1, 40), (1, 41), (1, 41), (1, 42), (1, 42), (1, 43), (1, 43), (1, 44), (1, 44), (1, 117), (1, 118), (1, 119), (1, 116), (1, 120), (1, 148)] (by decide +kernel)
set_option maxRecDepth 1000000 in
set_option maxHeartbeats 8000000 in
theorem am_in0_1 : ∀ e ∈ am_FLt_1, am_f0 e ∈ lw_tbl := am_pickF am_f0 _ [(1, 146), (1, 236), (1, 238), (2, 0), (2, 2), (2, 4), (2, 37), (2, 39), (2, 42), (2, 43), (2, 45), (2, 49), (2, 47), (2, 51), (2, 53), (2, 54), (2, 55), (2, 56), (1, 59), (1, 61), (1, 62), (1, 161), (1, 162), (1, 163), (1, 164)] (by decide +kernel)
set_option maxRecDepth 1000000 in
set_option maxHeartbeats 8000000 in
theorem am_in0_2 : ∀ e ∈ am_FLt_2, am_f0 e ∈ lw_tbl := am_pickF am_f0 _ [(1, 159), (1, 160), (1, 165), (1, 168), (1, 167), (2, 90), (2, 91), (2, 88), (2, 89), (2, 92), (2, 23), (2, 24), (2, 25), (2, 26), (1, 202), (1, 203), (1, 204), (1, 205), (1, 206), (1, 207), (1, 208), (1, 209), (1, 210), (2, 105), (2, 106)] (by decide +kernel)
set_option maxRecDepth 1000000 in
set_option maxHeartbeats 8000000 in
theorem am_in0_3 : ∀ e ∈ am_FLt_3, am_f0 e ∈ lw_tbl := am_pickF am_f0 _ [(2, 107), (2, 108), (2, 109), (2, 110), (2, 111), (2, 112), (6, 167), (6, 168), (6, 169), (6, 170), (6, 171), (6, 172), (6, 173), (6, 174), (6, 176), (6, 177), (6, 178), (6, 179), (6, 180), (6, 181), (6, 182), (6, 184), (6, 187), (6, 188), (6, 190)] (by decide +kernel)
set_option maxRecDepth 1000000 in
set_option maxHeartbeats 8000000 in
theorem am_in0_4 : ∀ e ∈ am_FLt_4, am_f0 e ∈ lw_tbl := am_pickF am_f0 _ [(6, 191), (6, 193), (6, 194), (6, 195), (6, 196), (6, 200), (6, 201), (6, 202), (6, 203), (6, 204), (6, 205), (6, 206), (6, 212), (6, 213), (6, 214), (6, 215), (6, 217), (6, 218), (6, 219), (6, 221), (6, 222), (6, 223), (6, 224), (6, 226), (6, 227)] (by decide +kernel)
set_option maxRecDepth 1000000 in
set_option maxHeartbeats 8000000 in
theorem am_in0_5 : ∀ e ∈ am_FLt_5, am_f0 e ∈ lw_tbl := am_pickF am_f0 _ [(6, 228), (6, 232), (6, 235), (6, 238), (7, 0), (7, 1), (6, 166), (6, 185), (6, 183), (6, 186), (6, 175), (6, 189), (6, 192), (6, 199), (6, 198), (6, 197), (6, 236), (6, 220), (6, 211), (6, 216), (6, 225), (6, 229), (6, 230), (6, 231), (6, 208)] (by decide +kernel)
set_option maxRecDepth 1000000 in
set_option maxHeartbeats 8000000 in
theorem am_in0_6 : ∀ e ∈ am_FLt_6, am_f0 e ∈ lw_tbl := am_pickF am_f0 _ [(6, 237), (6, 210), (6, 234), (6, 233), (6, 209), (6, 207), (6, 239)] (by decide +kernel)
theorem am_in0 : ∀ e ∈ am_FLt, am_f0 e ∈ lw_tbl := List.forall_mem_append.mpr ⟨am_in0_0, List.forall_mem_append.mpr ⟨am_in0_1, List.forall_mem_append.mpr ⟨am_in0_2, List.forall_mem_append.mpr ⟨am_in0_3, List.forall_mem_append.mpr ⟨am_in0_4, List.forall_mem_append.mpr ⟨am_in0_5, am_in0_6⟩⟩⟩⟩⟩⟩
def am_f1 : Nat × Nat × Nat → Cond := fun e => Jvm.Cond.constant (am_cn e.1) e.2.1 (Int32.ofNat e.2.2)
set_option maxRecDepth 1000000 in
set_option maxHeartbeats 8000000 in
theorem am_in1_0 : ∀ e ∈ am_LIt, am_f1 e ∈ lw_tbl := am_pickF am_f1 _ [(5, 230), (6, 165)] (by decide +kernel)
theorem am_in1 : ∀ e ∈ am_LIt, am_f1 e ∈ lw_tbl := am_in1_0
def am_f2 : Nat × Nat × Nat → Cond := fun e => Jvm.Cond.constantLong (am_cn e.1) e.2.1 (Int64.ofNat e.2.2)
set_option maxRecDepth 1000000 in
set_option maxHeartbeats 8000000 in
theorem am_in2_0 : ∀ e ∈ am_LJt, am_f2 e ∈ lw_tbl := am_pickF am_f2 _ [(5, 114), (5, 115), (5, 181), (6, 78), (6, 79), (6, 80), (6, 76), (6, 97), (8, 195), (8, 186), (9, 41), (9, 42), (9, 43), (9, 48), (8, 224), (9, 89)] (by decide +kernel)
theorem am_in2 : ∀ e ∈ am_LJt, am_f2 e ∈ lw_tbl := am_in2_0
def am_f3 : MethodName × ByteArray × Nat × Option FieldType × List (Nat × Nat × Nat × Nat) → Cond := am_cdw
set_option maxRecDepth 1000000 in
set_option maxHeartbeats 8000000 in
theorem am_in3_0 : ∀ e ∈ am_Ml_0, am_f3 e ∈ lw_tbl := List.forall_mem_cons.mpr ⟨am_tbs_in 1 _ (am_nth_in _ 75 _ rfl), List.forall_mem_cons.mpr ⟨am_tbs_in 3 _ (am_nth_in _ 189 _ rfl), List.forall_mem_cons.mpr ⟨am_tbs_in 3 _ (am_nth_in _ 201 _ rfl), List.forall_mem_cons.mpr ⟨am_tbs_in 3 _ (am_nth_in _ 224 _ rfl), List.forall_mem_cons.mpr ⟨am_tbs_in 3 _ (am_nth_in _ 193 _ rfl), List.forall_mem_cons.mpr ⟨am_tbs_in 3 _ (am_nth_in _ 214 _ rfl), List.forall_mem_cons.mpr ⟨am_tbs_in 3 _ (am_nth_in _ 208 _ rfl), List.forall_mem_cons.mpr ⟨am_tbs_in 1 _ (am_nth_in _ 38 _ rfl), List.forall_mem_cons.mpr ⟨am_tbs_in 2 _ (am_nth_in _ 165 _ rfl), List.forall_mem_cons.mpr ⟨am_tbs_in 2 _ (am_nth_in _ 171 _ rfl), List.forall_mem_cons.mpr ⟨am_tbs_in 2 _ (am_nth_in _ 177 _ rfl), List.forall_mem_cons.mpr ⟨am_tbs_in 2 _ (am_nth_in _ 183 _ rfl), List.forall_mem_cons.mpr ⟨am_tbs_in 2 _ (am_nth_in _ 146 _ rfl), List.forall_mem_cons.mpr ⟨am_tbs_in 4 _ (am_nth_in _ 10 _ rfl), List.forall_mem_cons.mpr ⟨am_tbs_in 4 _ (am_nth_in _ 2 _ rfl), List.forall_mem_cons.mpr ⟨am_tbs_in 4 _ (am_nth_in _ 38 _ rfl), List.forall_mem_cons.mpr ⟨am_tbs_in 4 _ (am_nth_in _ 44 _ rfl), List.forall_mem_cons.mpr ⟨am_tbs_in 4 _ (am_nth_in _ 231 _ rfl), List.forall_mem_cons.mpr ⟨am_tbs_in 4 _ (am_nth_in _ 24 _ rfl), List.forall_mem_cons.mpr ⟨am_tbs_in 2 _ (am_nth_in _ 189 _ rfl), List.forall_mem_cons.mpr ⟨am_tbs_in 2 _ (am_nth_in _ 159 _ rfl), List.forall_mem_cons.mpr ⟨am_tbs_in 2 _ (am_nth_in _ 152 _ rfl), List.forall_mem_cons.mpr ⟨am_tbs_in 3 _ (am_nth_in _ 236 _ rfl), List.forall_mem_cons.mpr ⟨am_tbs_in 3 _ (am_nth_in _ 230 _ rfl), List.forall_mem_cons.mpr ⟨am_tbs_in 4 _ (am_nth_in _ 217 _ rfl), fun _ h => absurd h List.not_mem_nil⟩⟩⟩⟩⟩⟩⟩⟩⟩⟩⟩⟩⟩⟩⟩⟩⟩⟩⟩⟩⟩⟩⟩⟩⟩
set_option maxRecDepth 1000000 in
set_option maxHeartbeats 8000000 in
theorem am_in3_1 : ∀ e ∈ am_Ml_1, am_f3 e ∈ lw_tbl := List.forall_mem_cons.mpr ⟨am_tbs_in 5 _ (am_nth_in _ 4 _ rfl), List.forall_mem_cons.mpr ⟨am_tbs_in 5 _ (am_nth_in _ 10 _ rfl), List.forall_mem_cons.mpr ⟨am_tbs_in 4 _ (am_nth_in _ 195 _ rfl), List.forall_mem_cons.mpr ⟨am_tbs_in 4 _ (am_nth_in _ 17 _ rfl), List.forall_mem_cons.mpr ⟨am_tbs_in 4 _ (am_nth_in _ 48 _ rfl), List.forall_mem_cons.mpr ⟨am_tbs_in 4 _ (am_nth_in _ 28 _ rfl), List.forall_mem_cons.mpr ⟨am_tbs_in 4 _ (am_nth_in _ 32 _ rfl), List.forall_mem_cons.mpr ⟨am_tbs_in 4 _ (am_nth_in _ 90 _ rfl), List.forall_mem_cons.mpr ⟨am_tbs_in 5 _ (am_nth_in _ 113 _ rfl), List.forall_mem_cons.mpr ⟨am_tbs_in 1 _ (am_nth_in _ 114 _ rfl), List.forall_mem_cons.mpr ⟨am_tbs_in 4 _ (am_nth_in _ 79 _ rfl), List.forall_mem_cons.mpr ⟨am_tbs_in 4 _ (am_nth_in _ 83 _ rfl), List.forall_mem_cons.mpr ⟨am_tbs_in 4 _ (am_nth_in _ 95 _ rfl), List.forall_mem_cons.mpr ⟨am_tbs_in 5 _ (am_nth_in _ 139 _ rfl), List.forall_mem_cons.mpr ⟨am_tbs_in 4 _ (am_nth_in _ 100 _ rfl), List.forall_mem_cons.mpr ⟨am_tbs_in 4 _ (am_nth_in _ 132 _ rfl), List.forall_mem_cons.mpr ⟨am_tbs_in 4 _ (am_nth_in _ 108 _ rfl), List.forall_mem_cons.mpr ⟨am_tbs_in 4 _ (am_nth_in _ 126 _ rfl), List.forall_mem_cons.mpr ⟨am_tbs_in 4 _ (am_nth_in _ 114 _ rfl), List.forall_mem_cons.mpr ⟨am_tbs_in 4 _ (am_nth_in _ 122 _ rfl), List.forall_mem_cons.mpr ⟨am_tbs_in 4 _ (am_nth_in _ 137 _ rfl), List.forall_mem_cons.mpr ⟨am_tbs_in 1 _ (am_nth_in _ 144 _ rfl), List.forall_mem_cons.mpr ⟨am_tbs_in 4 _ (am_nth_in _ 146 _ rfl), List.forall_mem_cons.mpr ⟨am_tbs_in 5 _ (am_nth_in _ 73 _ rfl), List.forall_mem_cons.mpr ⟨am_tbs_in 4 _ (am_nth_in _ 154 _ rfl), fun _ h => absurd h List.not_mem_nil⟩⟩⟩⟩⟩⟩⟩⟩⟩⟩⟩⟩⟩⟩⟩⟩⟩⟩⟩⟩⟩⟩⟩⟩⟩
set_option maxRecDepth 1000000 in
set_option maxHeartbeats 8000000 in
theorem am_in3_2 : ∀ e ∈ am_Ml_2, am_f3 e ∈ lw_tbl := List.forall_mem_cons.mpr ⟨am_tbs_in 4 _ (am_nth_in _ 169 _ rfl), List.forall_mem_cons.mpr ⟨am_tbs_in 4 _ (am_nth_in _ 199 _ rfl), List.forall_mem_cons.mpr ⟨am_tbs_in 4 _ (am_nth_in _ 178 _ rfl), List.forall_mem_cons.mpr ⟨am_tbs_in 4 _ (am_nth_in _ 203 _ rfl), List.forall_mem_cons.mpr ⟨am_tbs_in 5 _ (am_nth_in _ 19 _ rfl), List.forall_mem_cons.mpr ⟨am_tbs_in 1 _ (am_nth_in _ 234 _ rfl), List.forall_mem_cons.mpr ⟨am_tbs_in 5 _ (am_nth_in _ 198 _ rfl), List.forall_mem_cons.mpr ⟨am_tbs_in 1 _ (am_nth_in _ 192 _ rfl), List.forall_mem_cons.mpr ⟨am_tbs_in 5 _ (am_nth_in _ 162 _ rfl), List.forall_mem_cons.mpr ⟨am_tbs_in 5 _ (am_nth_in _ 229 _ rfl), List.forall_mem_cons.mpr ⟨am_tbs_in 6 _ (am_nth_in _ 66 _ rfl), List.forall_mem_cons.mpr ⟨am_tbs_in 5 _ (am_nth_in _ 234 _ rfl), List.forall_mem_cons.mpr ⟨am_tbs_in 6 _ (am_nth_in _ 19 _ rfl), List.forall_mem_cons.mpr ⟨am_tbs_in 5 _ (am_nth_in _ 212 _ rfl), List.forall_mem_cons.mpr ⟨am_tbs_in 6 _ (am_nth_in _ 0 _ rfl), List.forall_mem_cons.mpr ⟨am_tbs_in 6 _ (am_nth_in _ 5 _ rfl), List.forall_mem_cons.mpr ⟨am_tbs_in 5 _ (am_nth_in _ 185 _ rfl), List.forall_mem_cons.mpr ⟨am_tbs_in 6 _ (am_nth_in _ 32 _ rfl), List.forall_mem_cons.mpr ⟨am_tbs_in 6 _ (am_nth_in _ 36 _ rfl), List.forall_mem_cons.mpr ⟨am_tbs_in 6 _ (am_nth_in _ 45 _ rfl), List.forall_mem_cons.mpr ⟨am_tbs_in 6 _ (am_nth_in _ 51 _ rfl), List.forall_mem_cons.mpr ⟨am_tbs_in 6 _ (am_nth_in _ 56 _ rfl), List.forall_mem_cons.mpr ⟨am_tbs_in 6 _ (am_nth_in _ 62 _ rfl), List.forall_mem_cons.mpr ⟨am_tbs_in 1 _ (am_nth_in _ 32 _ rfl), List.forall_mem_cons.mpr ⟨am_tbs_in 2 _ (am_nth_in _ 220 _ rfl), fun _ h => absurd h List.not_mem_nil⟩⟩⟩⟩⟩⟩⟩⟩⟩⟩⟩⟩⟩⟩⟩⟩⟩⟩⟩⟩⟩⟩⟩⟩⟩
set_option maxRecDepth 1000000 in
set_option maxHeartbeats 8000000 in
theorem am_in3_3 : ∀ e ∈ am_Ml_3, am_f3 e ∈ lw_tbl := List.forall_mem_cons.mpr ⟨am_tbs_in 3 _ (am_nth_in _ 220 _ rfl), List.forall_mem_cons.mpr ⟨am_tbs_in 3 _ (am_nth_in _ 53 _ rfl), List.forall_mem_cons.mpr ⟨am_tbs_in 3 _ (am_nth_in _ 58 _ rfl), List.forall_mem_cons.mpr ⟨am_tbs_in 1 _ (am_nth_in _ 136 _ rfl), List.forall_mem_cons.mpr ⟨am_tbs_in 4 _ (am_nth_in _ 60 _ rfl), List.forall_mem_cons.mpr ⟨am_tbs_in 4 _ (am_nth_in _ 63 _ rfl), List.forall_mem_cons.mpr ⟨am_tbs_in 4 _ (am_nth_in _ 75 _ rfl), List.forall_mem_cons.mpr ⟨am_tbs_in 4 _ (am_nth_in _ 141 _ rfl), List.forall_mem_cons.mpr ⟨am_tbs_in 5 _ (am_nth_in _ 88 _ rfl), List.forall_mem_cons.mpr ⟨am_tbs_in 5 _ (am_nth_in _ 77 _ rfl), List.forall_mem_cons.mpr ⟨am_tbs_in 5 _ (am_nth_in _ 44 _ rfl), List.forall_mem_cons.mpr ⟨am_tbs_in 4 _ (am_nth_in _ 158 _ rfl), List.forall_mem_cons.mpr ⟨am_tbs_in 4 _ (am_nth_in _ 163 _ rfl), List.forall_mem_cons.mpr ⟨am_tbs_in 4 _ (am_nth_in _ 188 _ rfl), List.forall_mem_cons.mpr ⟨am_tbs_in 4 _ (am_nth_in _ 225 _ rfl), List.forall_mem_cons.mpr ⟨am_tbs_in 4 _ (am_nth_in _ 238 _ rfl), List.forall_mem_cons.mpr ⟨am_tbs_in 5 _ (am_nth_in _ 15 _ rfl), List.forall_mem_cons.mpr ⟨am_tbs_in 5 _ (am_nth_in _ 28 _ rfl), List.forall_mem_cons.mpr ⟨am_tbs_in 5 _ (am_nth_in _ 33 _ rfl), List.forall_mem_cons.mpr ⟨am_tbs_in 5 _ (am_nth_in _ 37 _ rfl), List.forall_mem_cons.mpr ⟨am_tbs_in 5 _ (am_nth_in _ 48 _ rfl), List.forall_mem_cons.mpr ⟨am_tbs_in 5 _ (am_nth_in _ 52 _ rfl), List.forall_mem_cons.mpr ⟨am_tbs_in 5 _ (am_nth_in _ 56 _ rfl), List.forall_mem_cons.mpr ⟨am_tbs_in 5 _ (am_nth_in _ 60 _ rfl), List.forall_mem_cons.mpr ⟨am_tbs_in 5 _ (am_nth_in _ 64 _ rfl), fun _ h => absurd h List.not_mem_nil⟩⟩⟩⟩⟩⟩⟩⟩⟩⟩⟩⟩⟩⟩⟩⟩⟩⟩⟩⟩⟩⟩⟩⟩⟩
set_option maxRecDepth 1000000 in
set_option maxHeartbeats 8000000 in
theorem am_in3_4 : ∀ e ∈ am_Ml_4, am_f3 e ∈ lw_tbl := List.forall_mem_cons.mpr ⟨am_tbs_in 5 _ (am_nth_in _ 69 _ rfl), List.forall_mem_cons.mpr ⟨am_tbs_in 2 _ (am_nth_in _ 86 _ rfl), List.forall_mem_cons.mpr ⟨am_tbs_in 6 _ (am_nth_in _ 136 _ rfl), List.forall_mem_cons.mpr ⟨am_tbs_in 6 _ (am_nth_in _ 140 _ rfl), List.forall_mem_cons.mpr ⟨am_tbs_in 6 _ (am_nth_in _ 146 _ rfl), List.forall_mem_cons.mpr ⟨am_tbs_in 6 _ (am_nth_in _ 153 _ rfl), List.forall_mem_cons.mpr ⟨am_tbs_in 2 _ (am_nth_in _ 21 _ rfl), List.forall_mem_cons.mpr ⟨am_tbs_in 5 _ (am_nth_in _ 180 _ rfl), List.forall_mem_cons.mpr ⟨am_tbs_in 6 _ (am_nth_in _ 70 _ rfl), List.forall_mem_cons.mpr ⟨am_tbs_in 6 _ (am_nth_in _ 75 _ rfl), List.forall_mem_cons.mpr ⟨am_tbs_in 6 _ (am_nth_in _ 85 _ rfl), List.forall_mem_cons.mpr ⟨am_tbs_in 6 _ (am_nth_in _ 91 _ rfl), List.forall_mem_cons.mpr ⟨am_tbs_in 6 _ (am_nth_in _ 96 _ rfl), List.forall_mem_cons.mpr ⟨am_tbs_in 1 _ (am_nth_in _ 200 _ rfl), List.forall_mem_cons.mpr ⟨am_tbs_in 5 _ (am_nth_in _ 166 _ rfl), List.forall_mem_cons.mpr ⟨am_tbs_in 2 _ (am_nth_in _ 204 _ rfl), List.forall_mem_cons.mpr ⟨am_tbs_in 5 _ (am_nth_in _ 189 _ rfl), List.forall_mem_cons.mpr ⟨am_tbs_in 5 _ (am_nth_in _ 204 _ rfl), List.forall_mem_cons.mpr ⟨am_tbs_in 5 _ (am_nth_in _ 208 _ rfl), List.forall_mem_cons.mpr ⟨am_tbs_in 5 _ (am_nth_in _ 223 _ rfl), List.forall_mem_cons.mpr ⟨am_tbs_in 5 _ (am_nth_in _ 173 _ rfl), List.forall_mem_cons.mpr ⟨am_tbs_in 5 _ (am_nth_in _ 216 _ rfl), List.forall_mem_cons.mpr ⟨am_tbs_in 5 _ (am_nth_in _ 194 _ rfl), List.forall_mem_cons.mpr ⟨am_tbs_in 6 _ (am_nth_in _ 14 _ rfl), List.forall_mem_cons.mpr ⟨am_tbs_in 6 _ (am_nth_in _ 40 _ rfl), fun _ h => absurd h List.not_mem_nil⟩⟩⟩⟩⟩⟩⟩⟩⟩⟩⟩⟩⟩⟩⟩⟩⟩⟩⟩⟩⟩⟩⟩⟩⟩
set_option maxRecDepth 1000000 in
set_option maxHeartbeats 8000000 in
theorem am_in3_5 : ∀ e ∈ am_Ml_5, am_f3 e ∈ lw_tbl := List.forall_mem_cons.mpr ⟨am_tbs_in 6 _ (am_nth_in _ 27 _ rfl), List.forall_mem_cons.mpr ⟨am_tbs_in 6 _ (am_nth_in _ 23 _ rfl), List.forall_mem_cons.mpr ⟨am_tbs_in 6 _ (am_nth_in _ 10 _ rfl), List.forall_mem_cons.mpr ⟨am_tbs_in 1 _ (am_nth_in _ 24 _ rfl), List.forall_mem_cons.mpr ⟨am_tbs_in 2 _ (am_nth_in _ 212 _ rfl), List.forall_mem_cons.mpr ⟨am_tbs_in 3 _ (am_nth_in _ 67 _ rfl), List.forall_mem_cons.mpr ⟨am_tbs_in 3 _ (am_nth_in _ 93 _ rfl), List.forall_mem_cons.mpr ⟨am_tbs_in 3 _ (am_nth_in _ 101 _ rfl), List.forall_mem_cons.mpr ⟨am_tbs_in 3 _ (am_nth_in _ 128 _ rfl), List.forall_mem_cons.mpr ⟨am_tbs_in 3 _ (am_nth_in _ 135 _ rfl), List.forall_mem_cons.mpr ⟨am_tbs_in 3 _ (am_nth_in _ 142 _ rfl), List.forall_mem_cons.mpr ⟨am_tbs_in 3 _ (am_nth_in _ 149 _ rfl), List.forall_mem_cons.mpr ⟨am_tbs_in 3 _ (am_nth_in _ 156 _ rfl), List.forall_mem_cons.mpr ⟨am_tbs_in 3 _ (am_nth_in _ 163 _ rfl), List.forall_mem_cons.mpr ⟨am_tbs_in 3 _ (am_nth_in _ 171 _ rfl), List.forall_mem_cons.mpr ⟨am_tbs_in 3 _ (am_nth_in _ 178 _ rfl), List.forall_mem_cons.mpr ⟨am_tbs_in 3 _ (am_nth_in _ 185 _ rfl), List.forall_mem_cons.mpr ⟨am_tbs_in 4 _ (am_nth_in _ 55 _ rfl), List.forall_mem_cons.mpr ⟨am_tbs_in 4 _ (am_nth_in _ 71 _ rfl), List.forall_mem_cons.mpr ⟨am_tbs_in 2 _ (am_nth_in _ 133 _ rfl), List.forall_mem_cons.mpr ⟨am_tbs_in 5 _ (am_nth_in _ 95 _ rfl), List.forall_mem_cons.mpr ⟨am_tbs_in 5 _ (am_nth_in _ 107 _ rfl), List.forall_mem_cons.mpr ⟨am_tbs_in 5 _ (am_nth_in _ 122 _ rfl), List.forall_mem_cons.mpr ⟨am_tbs_in 5 _ (am_nth_in _ 130 _ rfl), List.forall_mem_cons.mpr ⟨am_tbs_in 5 _ (am_nth_in _ 146 _ rfl), fun _ h => absurd h List.not_mem_nil⟩⟩⟩⟩⟩⟩⟩⟩⟩⟩⟩⟩⟩⟩⟩⟩⟩⟩⟩⟩⟩⟩⟩⟩⟩
set_option maxRecDepth 1000000 in
set_option maxHeartbeats 8000000 in
theorem am_in3_6 : ∀ e ∈ am_Ml_6, am_f3 e ∈ lw_tbl := List.forall_mem_cons.mpr ⟨am_tbs_in 5 _ (am_nth_in _ 154 _ rfl), List.forall_mem_cons.mpr ⟨am_tbs_in 6 _ (am_nth_in _ 104 _ rfl), List.forall_mem_cons.mpr ⟨am_tbs_in 6 _ (am_nth_in _ 112 _ rfl), List.forall_mem_cons.mpr ⟨am_tbs_in 2 _ (am_nth_in _ 196 _ rfl), List.forall_mem_cons.mpr ⟨am_tbs_in 2 _ (am_nth_in _ 200 _ rfl), List.forall_mem_cons.mpr ⟨am_tbs_in 6 _ (am_nth_in _ 124 _ rfl), List.forall_mem_cons.mpr ⟨am_tbs_in 6 _ (am_nth_in _ 132 _ rfl), List.forall_mem_cons.mpr ⟨am_tbs_in 3 _ (am_nth_in _ 105 _ rfl), List.forall_mem_cons.mpr ⟨am_tbs_in 5 _ (am_nth_in _ 99 _ rfl), List.forall_mem_cons.mpr ⟨am_tbs_in 5 _ (am_nth_in _ 134 _ rfl), List.forall_mem_cons.mpr ⟨am_tbs_in 6 _ (am_nth_in _ 116 _ rfl), List.forall_mem_cons.mpr ⟨am_tbs_in 3 _ (am_nth_in _ 70 _ rfl), List.forall_mem_cons.mpr ⟨am_tbs_in 5 _ (am_nth_in _ 157 _ rfl), List.forall_mem_cons.mpr ⟨am_tbs_in 2 _ (am_nth_in _ 216 _ rfl), List.forall_mem_cons.mpr ⟨am_tbs_in 2 _ (am_nth_in _ 137 _ rfl), List.forall_mem_cons.mpr ⟨am_tbs_in 2 _ (am_nth_in _ 140 _ rfl), List.forall_mem_cons.mpr ⟨am_tbs_in 3 _ (am_nth_in _ 197 _ rfl), List.forall_mem_cons.mpr ⟨am_tbs_in 2 _ (am_nth_in _ 192 _ rfl), List.forall_mem_cons.mpr ⟨am_tbs_in 4 _ (am_nth_in _ 117 _ rfl), List.forall_mem_cons.mpr ⟨am_tbs_in 4 _ (am_nth_in _ 104 _ rfl), List.forall_mem_cons.mpr ⟨am_tbs_in 5 _ (am_nth_in _ 40 _ rfl), List.forall_mem_cons.mpr ⟨am_tbs_in 6 _ (am_nth_in _ 163 _ rfl), List.forall_mem_cons.mpr ⟨am_tbs_in 7 _ (am_nth_in _ 158 _ rfl), List.forall_mem_cons.mpr ⟨am_tbs_in 7 _ (am_nth_in _ 174 _ rfl), List.forall_mem_cons.mpr ⟨am_tbs_in 7 _ (am_nth_in _ 184 _ rfl), fun _ h => absurd h List.not_mem_nil⟩⟩⟩⟩⟩⟩⟩⟩⟩⟩⟩⟩⟩⟩⟩⟩⟩⟩⟩⟩⟩⟩⟩⟩⟩
set_option maxRecDepth 1000000 in
set_option maxHeartbeats 8000000 in
theorem am_in3_7 : ∀ e ∈ am_Ml_7, am_f3 e ∈ lw_tbl := List.forall_mem_cons.mpr ⟨am_tbs_in 7 _ (am_nth_in _ 181 _ rfl), List.forall_mem_cons.mpr ⟨am_tbs_in 7 _ (am_nth_in _ 191 _ rfl), List.forall_mem_cons.mpr ⟨am_tbs_in 7 _ (am_nth_in _ 199 _ rfl), List.forall_mem_cons.mpr ⟨am_tbs_in 8 _ (am_nth_in _ 181 _ rfl), List.forall_mem_cons.mpr ⟨am_tbs_in 7 _ (am_nth_in _ 170 _ rfl), List.forall_mem_cons.mpr ⟨am_tbs_in 7 _ (am_nth_in _ 166 _ rfl), List.forall_mem_cons.mpr ⟨am_tbs_in 7 _ (am_nth_in _ 162 _ rfl), List.forall_mem_cons.mpr ⟨am_tbs_in 7 _ (am_nth_in _ 178 _ rfl), List.forall_mem_cons.mpr ⟨am_tbs_in 7 _ (am_nth_in _ 188 _ rfl), List.forall_mem_cons.mpr ⟨am_tbs_in 7 _ (am_nth_in _ 195 _ rfl), List.forall_mem_cons.mpr ⟨am_tbs_in 7 _ (am_nth_in _ 203 _ rfl), List.forall_mem_cons.mpr ⟨am_tbs_in 7 _ (am_nth_in _ 207 _ rfl), List.forall_mem_cons.mpr ⟨am_tbs_in 7 _ (am_nth_in _ 211 _ rfl), List.forall_mem_cons.mpr ⟨am_tbs_in 7 _ (am_nth_in _ 215 _ rfl), List.forall_mem_cons.mpr ⟨am_tbs_in 7 _ (am_nth_in _ 219 _ rfl), List.forall_mem_cons.mpr ⟨am_tbs_in 7 _ (am_nth_in _ 223 _ rfl), List.forall_mem_cons.mpr ⟨am_tbs_in 7 _ (am_nth_in _ 227 _ rfl), List.forall_mem_cons.mpr ⟨am_tbs_in 7 _ (am_nth_in _ 231 _ rfl), List.forall_mem_cons.mpr ⟨am_tbs_in 8 _ (am_nth_in _ 3 _ rfl), List.forall_mem_cons.mpr ⟨am_tbs_in 8 _ (am_nth_in _ 95 _ rfl), List.forall_mem_cons.mpr ⟨am_tbs_in 8 _ (am_nth_in _ 11 _ rfl), List.forall_mem_cons.mpr ⟨am_tbs_in 7 _ (am_nth_in _ 239 _ rfl), List.forall_mem_cons.mpr ⟨am_tbs_in 8 _ (am_nth_in _ 7 _ rfl), List.forall_mem_cons.mpr ⟨am_tbs_in 8 _ (am_nth_in _ 15 _ rfl), List.forall_mem_cons.mpr ⟨am_tbs_in 8 _ (am_nth_in _ 19 _ rfl), fun _ h => absurd h List.not_mem_nil⟩⟩⟩⟩⟩⟩⟩⟩⟩⟩⟩⟩⟩⟩⟩⟩⟩⟩⟩⟩⟩⟩⟩⟩⟩
set_option maxRecDepth 1000000 in
set_option maxHeartbeats 8000000 in
theorem am_in3_8 : ∀ e ∈ am_Ml_8, am_f3 e ∈ lw_tbl := List.forall_mem_cons.mpr ⟨am_tbs_in 8 _ (am_nth_in _ 31 _ rfl), List.forall_mem_cons.mpr ⟨am_tbs_in 8 _ (am_nth_in _ 27 _ rfl), List.forall_mem_cons.mpr ⟨am_tbs_in 8 _ (am_nth_in _ 110 _ rfl), List.forall_mem_cons.mpr ⟨am_tbs_in 8 _ (am_nth_in _ 23 _ rfl), List.forall_mem_cons.mpr ⟨am_tbs_in 8 _ (am_nth_in _ 35 _ rfl), List.forall_mem_cons.mpr ⟨am_tbs_in 8 _ (am_nth_in _ 118 _ rfl), List.forall_mem_cons.mpr ⟨am_tbs_in 8 _ (am_nth_in _ 122 _ rfl), List.forall_mem_cons.mpr ⟨am_tbs_in 8 _ (am_nth_in _ 106 _ rfl), List.forall_mem_cons.mpr ⟨am_tbs_in 8 _ (am_nth_in _ 130 _ rfl), List.forall_mem_cons.mpr ⟨am_tbs_in 8 _ (am_nth_in _ 126 _ rfl), List.forall_mem_cons.mpr ⟨am_tbs_in 7 _ (am_nth_in _ 235 _ rfl), List.forall_mem_cons.mpr ⟨am_tbs_in 8 _ (am_nth_in _ 39 _ rfl), List.forall_mem_cons.mpr ⟨am_tbs_in 8 _ (am_nth_in _ 98 _ rfl), List.forall_mem_cons.mpr ⟨am_tbs_in 8 _ (am_nth_in _ 102 _ rfl), List.forall_mem_cons.mpr ⟨am_tbs_in 8 _ (am_nth_in _ 87 _ rfl), List.forall_mem_cons.mpr ⟨am_tbs_in 8 _ (am_nth_in _ 91 _ rfl), List.forall_mem_cons.mpr ⟨am_tbs_in 8 _ (am_nth_in _ 169 _ rfl), List.forall_mem_cons.mpr ⟨am_tbs_in 8 _ (am_nth_in _ 83 _ rfl), List.forall_mem_cons.mpr ⟨am_tbs_in 8 _ (am_nth_in _ 114 _ rfl), List.forall_mem_cons.mpr ⟨am_tbs_in 8 _ (am_nth_in _ 134 _ rfl), List.forall_mem_cons.mpr ⟨am_tbs_in 8 _ (am_nth_in _ 138 _ rfl), List.forall_mem_cons.mpr ⟨am_tbs_in 8 _ (am_nth_in _ 145 _ rfl), List.forall_mem_cons.mpr ⟨am_tbs_in 8 _ (am_nth_in _ 142 _ rfl), List.forall_mem_cons.mpr ⟨am_tbs_in 8 _ (am_nth_in _ 79 _ rfl), List.forall_mem_cons.mpr ⟨am_tbs_in 8 _ (am_nth_in _ 149 _ rfl), fun _ h => absurd h List.not_mem_nil⟩⟩⟩⟩⟩⟩⟩⟩⟩⟩⟩⟩⟩⟩⟩⟩⟩⟩⟩⟩⟩⟩⟩⟩⟩
set_option maxRecDepth 1000000 in
set_option maxHeartbeats 8000000 in
theorem am_in3_9 : ∀ e ∈ am_Ml_9, am_f3 e ∈ lw_tbl := List.forall_mem_cons.mpr ⟨am_tbs_in 8 _ (am_nth_in _ 153 _ rfl), List.forall_mem_cons.mpr ⟨am_tbs_in 8 _ (am_nth_in _ 157 _ rfl), List.forall_mem_cons.mpr ⟨am_tbs_in 8 _ (am_nth_in _ 161 _ rfl), List.forall_mem_cons.mpr ⟨am_tbs_in 8 _ (am_nth_in _ 165 _ rfl), List.forall_mem_cons.mpr ⟨am_tbs_in 8 _ (am_nth_in _ 75 _ rfl), List.forall_mem_cons.mpr ⟨am_tbs_in 8 _ (am_nth_in _ 71 _ rfl), List.forall_mem_cons.mpr ⟨am_tbs_in 8 _ (am_nth_in _ 43 _ rfl), List.forall_mem_cons.mpr ⟨am_tbs_in 8 _ (am_nth_in _ 173 _ rfl), List.forall_mem_cons.mpr ⟨am_tbs_in 8 _ (am_nth_in _ 177 _ rfl), List.forall_mem_cons.mpr ⟨am_tbs_in 8 _ (am_nth_in _ 194 _ rfl), List.forall_mem_cons.mpr ⟨am_tbs_in 8 _ (am_nth_in _ 199 _ rfl), List.forall_mem_cons.mpr ⟨am_tbs_in 8 _ (am_nth_in _ 190 _ rfl), List.forall_mem_cons.mpr ⟨am_tbs_in 8 _ (am_nth_in _ 185 _ rfl), List.forall_mem_cons.mpr ⟨am_tbs_in 8 _ (am_nth_in _ 67 _ rfl), List.forall_mem_cons.mpr ⟨am_tbs_in 8 _ (am_nth_in _ 63 _ rfl), List.forall_mem_cons.mpr ⟨am_tbs_in 8 _ (am_nth_in _ 59 _ rfl), List.forall_mem_cons.mpr ⟨am_tbs_in 8 _ (am_nth_in _ 51 _ rfl), List.forall_mem_cons.mpr ⟨am_tbs_in 8 _ (am_nth_in _ 55 _ rfl), List.forall_mem_cons.mpr ⟨am_tbs_in 8 _ (am_nth_in _ 47 _ rfl), List.forall_mem_cons.mpr ⟨am_tbs_in 8 _ (am_nth_in _ 211 _ rfl), List.forall_mem_cons.mpr ⟨am_tbs_in 8 _ (am_nth_in _ 203 _ rfl), List.forall_mem_cons.mpr ⟨am_tbs_in 8 _ (am_nth_in _ 207 _ rfl), List.forall_mem_cons.mpr ⟨am_tbs_in 8 _ (am_nth_in _ 215 _ rfl), List.forall_mem_cons.mpr ⟨am_tbs_in 9 _ (am_nth_in _ 12 _ rfl), List.forall_mem_cons.mpr ⟨am_tbs_in 8 _ (am_nth_in _ 223 _ rfl), fun _ h => absurd h List.not_mem_nil⟩⟩⟩⟩⟩⟩⟩⟩⟩⟩⟩⟩⟩⟩⟩⟩⟩⟩⟩⟩⟩⟩⟩⟩⟩
set_option maxRecDepth 1000000 in
set_option maxHeartbeats 8000000 in
theorem am_in3_10 : ∀ e ∈ am_Ml_10, am_f3 e ∈ lw_tbl := List.forall_mem_cons.mpr ⟨am_tbs_in 9 _ (am_nth_in _ 28 _ rfl), List.forall_mem_cons.mpr ⟨am_tbs_in 9 _ (am_nth_in _ 20 _ rfl), List.forall_mem_cons.mpr ⟨am_tbs_in 9 _ (am_nth_in _ 16 _ rfl), List.forall_mem_cons.mpr ⟨am_tbs_in 8 _ (am_nth_in _ 236 _ rfl), List.forall_mem_cons.mpr ⟨am_tbs_in 9 _ (am_nth_in _ 0 _ rfl), List.forall_mem_cons.mpr ⟨am_tbs_in 8 _ (am_nth_in _ 232 _ rfl), List.forall_mem_cons.mpr ⟨am_tbs_in 8 _ (am_nth_in _ 228 _ rfl), List.forall_mem_cons.mpr ⟨am_tbs_in 9 _ (am_nth_in _ 8 _ rfl), List.forall_mem_cons.mpr ⟨am_tbs_in 9 _ (am_nth_in _ 32 _ rfl), List.forall_mem_cons.mpr ⟨am_tbs_in 9 _ (am_nth_in _ 36 _ rfl), List.forall_mem_cons.mpr ⟨am_tbs_in 9 _ (am_nth_in _ 24 _ rfl), List.forall_mem_cons.mpr ⟨am_tbs_in 9 _ (am_nth_in _ 47 _ rfl), List.forall_mem_cons.mpr ⟨am_tbs_in 9 _ (am_nth_in _ 40 _ rfl), List.forall_mem_cons.mpr ⟨am_tbs_in 9 _ (am_nth_in _ 4 _ rfl), List.forall_mem_cons.mpr ⟨am_tbs_in 8 _ (am_nth_in _ 219 _ rfl), List.forall_mem_cons.mpr ⟨am_tbs_in 9 _ (am_nth_in _ 52 _ rfl), List.forall_mem_cons.mpr ⟨am_tbs_in 9 _ (am_nth_in _ 60 _ rfl), List.forall_mem_cons.mpr ⟨am_tbs_in 9 _ (am_nth_in _ 56 _ rfl), List.forall_mem_cons.mpr ⟨am_tbs_in 9 _ (am_nth_in _ 64 _ rfl), List.forall_mem_cons.mpr ⟨am_tbs_in 9 _ (am_nth_in _ 68 _ rfl), List.forall_mem_cons.mpr ⟨am_tbs_in 9 _ (am_nth_in _ 72 _ rfl), List.forall_mem_cons.mpr ⟨am_tbs_in 9 _ (am_nth_in _ 88 _ rfl), List.forall_mem_cons.mpr ⟨am_tbs_in 9 _ (am_nth_in _ 84 _ rfl), List.forall_mem_cons.mpr ⟨am_tbs_in 9 _ (am_nth_in _ 80 _ rfl), List.forall_mem_cons.mpr ⟨am_tbs_in 9 _ (am_nth_in _ 76 _ rfl), fun _ h => absurd h List.not_mem_nil⟩⟩⟩⟩⟩⟩⟩⟩⟩⟩⟩⟩⟩⟩⟩⟩⟩⟩⟩⟩⟩⟩⟩⟩⟩
set_option maxRecDepth 1000000 in
set_option maxHeartbeats 8000000 in
theorem am_in3_11 : ∀ e ∈ am_Ml_11, am_f3 e ∈ lw_tbl := List.forall_mem_cons.mpr ⟨am_tbs_in 2 _ (am_nth_in _ 207 _ rfl), List.forall_mem_cons.mpr ⟨am_tbs_in 3 _ (am_nth_in _ 62 _ rfl), List.forall_mem_cons.mpr ⟨am_tbs_in 3 _ (am_nth_in _ 89 _ rfl), List.forall_mem_cons.mpr ⟨am_tbs_in 3 _ (am_nth_in _ 96 _ rfl), List.forall_mem_cons.mpr ⟨am_tbs_in 3 _ (am_nth_in _ 124 _ rfl), List.forall_mem_cons.mpr ⟨am_tbs_in 3 _ (am_nth_in _ 131 _ rfl), List.forall_mem_cons.mpr ⟨am_tbs_in 3 _ (am_nth_in _ 138 _ rfl), List.forall_mem_cons.mpr ⟨am_tbs_in 3 _ (am_nth_in _ 145 _ rfl), List.forall_mem_cons.mpr ⟨am_tbs_in 3 _ (am_nth_in _ 152 _ rfl), List.forall_mem_cons.mpr ⟨am_tbs_in 3 _ (am_nth_in _ 159 _ rfl), List.forall_mem_cons.mpr ⟨am_tbs_in 3 _ (am_nth_in _ 167 _ rfl), List.forall_mem_cons.mpr ⟨am_tbs_in 3 _ (am_nth_in _ 174 _ rfl), List.forall_mem_cons.mpr ⟨am_tbs_in 3 _ (am_nth_in _ 181 _ rfl), List.forall_mem_cons.mpr ⟨am_tbs_in 4 _ (am_nth_in _ 51 _ rfl), List.forall_mem_cons.mpr ⟨am_tbs_in 4 _ (am_nth_in _ 67 _ rfl), List.forall_mem_cons.mpr ⟨am_tbs_in 5 _ (am_nth_in _ 91 _ rfl), List.forall_mem_cons.mpr ⟨am_tbs_in 5 _ (am_nth_in _ 103 _ rfl), List.forall_mem_cons.mpr ⟨am_tbs_in 5 _ (am_nth_in _ 118 _ rfl), List.forall_mem_cons.mpr ⟨am_tbs_in 5 _ (am_nth_in _ 126 _ rfl), List.forall_mem_cons.mpr ⟨am_tbs_in 5 _ (am_nth_in _ 142 _ rfl), List.forall_mem_cons.mpr ⟨am_tbs_in 5 _ (am_nth_in _ 150 _ rfl), List.forall_mem_cons.mpr ⟨am_tbs_in 6 _ (am_nth_in _ 100 _ rfl), List.forall_mem_cons.mpr ⟨am_tbs_in 6 _ (am_nth_in _ 108 _ rfl), List.forall_mem_cons.mpr ⟨am_tbs_in 6 _ (am_nth_in _ 120 _ rfl), List.forall_mem_cons.mpr ⟨am_tbs_in 6 _ (am_nth_in _ 128 _ rfl), fun _ h => absurd h List.not_mem_nil⟩⟩⟩⟩⟩⟩⟩⟩⟩⟩⟩⟩⟩⟩⟩⟩⟩⟩⟩⟩⟩⟩⟩⟩⟩
theorem am_in3 : ∀ e ∈ am_Ml, am_f3 e ∈ lw_tbl := List.forall_mem_append.mpr ⟨am_in3_0, List.forall_mem_append.mpr ⟨am_in3_1, List.forall_mem_append.mpr ⟨am_in3_2, List.forall_mem_append.mpr ⟨am_in3_3, List.forall_mem_append.mpr ⟨am_in3_4, List.forall_mem_append.mpr ⟨am_in3_5, List.forall_mem_append.mpr ⟨am_in3_6, List.forall_mem_append.mpr ⟨am_in3_7, List.forall_mem_append.mpr ⟨am_in3_8, List.forall_mem_append.mpr ⟨am_in3_9, List.forall_mem_append.mpr ⟨am_in3_10, am_in3_11⟩⟩⟩⟩⟩⟩⟩⟩⟩⟩⟩
def am_f4 : Nat → Cond := fun y => Cond.static (am_yn y)
set_option maxRecDepth 1000000 in
set_option maxHeartbeats 8000000 in
theorem am_in4_0 : ∀ e ∈ am_smt_0, am_f4 e ∈ lw_tbl := am_pickF am_f4 _ [(3, 223), (4, 62), (3, 69), (5, 156), (2, 139), (3, 196), (2, 191), (4, 116), (4, 103), (5, 39), (7, 183), (7, 180), (7, 190), (8, 97), (8, 144), (2, 206), (3, 61), (3, 88), (3, 95), (3, 123), (3, 130), (3, 137), (3, 144), (3, 151), (3, 158)] (by decide +kernel)
set_option maxRecDepth 1000000 in
set_option maxHeartbeats 8000000 in
theorem am_in4_1 : ∀ e ∈ am_smt_1, am_f4 e ∈ lw_tbl := am_pickF am_f4 _ [(3, 166), (3, 173), (3, 180), (4, 50), (4, 66), (5, 90), (5, 102), (5, 117), (5, 125), (5, 141), (5, 149), (6, 99), (6, 107), (6, 119), (6, 127)] (by decide +kernel)
theorem am_in4 : ∀ e ∈ am_smt, am_f4 e ∈ lw_tbl := List.forall_mem_append.mpr ⟨am_in4_0, am_in4_1⟩
def am_f5 : Nat → Cond := fun y => Cond.instanceMethod (am_yn y)
set_option maxRecDepth 1000000 in
set_option maxHeartbeats 8000000 in
theorem am_in5_0 : ∀ e ∈ am_imt_0, am_f5 e ∈ lw_tbl := am_pickF am_f5 _ [(1, 74), (3, 187), (3, 200), (3, 192), (3, 213), (3, 207), (1, 37), (2, 161), (2, 167), (2, 173), (2, 179), (2, 142), (4, 6), (3, 238), (4, 34), (4, 40), (4, 227), (4, 20), (2, 185), (2, 155), (2, 148), (3, 232), (3, 226), (4, 216), (5, 0)] (by decide +kernel)
set_option maxRecDepth 1000000 in
set_option maxHeartbeats 8000000 in
theorem am_in5_1 : ∀ e ∈ am_imt_1, am_f5 e ∈ lw_tbl := am_pickF am_f5 _ [(5, 6), (4, 191), (4, 13), (4, 47), (4, 27), (4, 31), (4, 86), (5, 109), (1, 113), (4, 77), (4, 82), (4, 94), (5, 137), (4, 98), (4, 130), (4, 107), (4, 125), (4, 113), (4, 121), (4, 136), (1, 143), (4, 144), (5, 71), (4, 152), (4, 167)] (by decide +kernel)
set_option maxRecDepth 1000000 in
set_option maxHeartbeats 8000000 in
theorem am_in5_2 : ∀ e ∈ am_imt_2, am_f5 e ∈ lw_tbl := am_pickF am_f5 _ [(4, 197), (4, 176), (4, 201), (5, 17), (1, 233), (5, 196), (1, 191), (5, 160), (5, 227), (6, 65), (5, 233), (6, 18), (5, 211), (5, 239), (6, 4), (5, 184), (6, 31), (6, 35), (6, 44), (6, 50), (6, 55), (6, 61), (1, 31), (2, 218), (3, 218)] (by decide +kernel)
set_option maxRecDepth 1000000 in
set_option maxHeartbeats 8000000 in
theorem am_in5_3 : ∀ e ∈ am_imt_3, am_f5 e ∈ lw_tbl := am_pickF am_f5 _ [(3, 51), (3, 56), (1, 135), (4, 58), (4, 73), (4, 139), (5, 86), (5, 76), (5, 43), (4, 157), (4, 162), (4, 187), (4, 224), (4, 237), (5, 14), (5, 27), (5, 32), (5, 36), (5, 47), (5, 51), (5, 55), (5, 59), (5, 63), (5, 68), (2, 85)] (by decide +kernel)
set_option maxRecDepth 1000000 in
set_option maxHeartbeats 8000000 in
theorem am_in5_4 : ∀ e ∈ am_imt_4, am_f5 e ∈ lw_tbl := am_pickF am_f5 _ [(6, 134), (6, 139), (6, 145), (6, 152), (2, 20), (5, 178), (6, 68), (6, 74), (6, 84), (6, 89), (6, 94), (1, 199), (5, 164), (2, 202), (5, 187), (5, 202), (5, 206), (5, 221), (5, 171), (5, 214), (5, 192), (6, 12), (6, 38), (6, 25), (6, 21)] (by decide +kernel)
set_option maxRecDepth 1000000 in
set_option maxHeartbeats 8000000 in
theorem am_in5_5 : ∀ e ∈ am_imt_5, am_f5 e ∈ lw_tbl := am_pickF am_f5 _ [(6, 8), (1, 23), (2, 210), (3, 65), (3, 91), (3, 99), (3, 126), (3, 133), (3, 140), (3, 147), (3, 154), (3, 161), (3, 169), (3, 176), (3, 183), (4, 53), (4, 69), (2, 131), (5, 93), (5, 105), (5, 120), (5, 128), (5, 144), (5, 152), (6, 102)] (by decide +kernel)
set_option maxRecDepth 1000000 in
set_option maxHeartbeats 8000000 in
theorem am_in5_6 : ∀ e ∈ am_imt_6, am_f5 e ∈ lw_tbl := am_pickF am_f5 _ [(6, 110), (2, 194), (2, 198), (6, 122), (6, 130), (3, 104), (5, 98), (5, 133), (6, 115), (2, 215), (2, 136), (6, 162), (7, 156), (7, 173), (7, 198), (8, 180), (7, 169), (7, 165), (7, 160), (7, 176), (7, 186), (7, 193), (7, 201), (7, 205), (7, 209)] (by decide +kernel)
set_option maxRecDepth 1000000 in
set_option maxHeartbeats 8000000 in
theorem am_in5_7 : ∀ e ∈ am_imt_7, am_f5 e ∈ lw_tbl := am_pickF am_f5 _ [(7, 213), (7, 217), (7, 221), (7, 225), (7, 229), (8, 2), (8, 94), (8, 10), (7, 238), (8, 6), (8, 14), (8, 18), (8, 30), (8, 26), (8, 109), (8, 22), (8, 34), (8, 117), (8, 121), (8, 105), (8, 129), (8, 125), (7, 233), (8, 37), (8, 101)] (by decide +kernel)
set_option maxRecDepth 1000000 in
set_option maxHeartbeats 8000000 in
theorem am_in5_8 : ∀ e ∈ am_imt_8, am_f5 e ∈ lw_tbl := am_pickF am_f5 _ [(8, 86), (8, 90), (8, 168), (8, 82), (8, 113), (8, 133), (8, 137), (8, 141), (8, 78), (8, 148), (8, 152), (8, 156), (8, 160), (8, 164), (8, 74), (8, 70), (8, 41), (8, 171), (8, 175), (8, 193), (8, 198), (8, 189), (8, 183), (8, 66), (8, 62)] (by decide +kernel)
set_option maxRecDepth 1000000 in
set_option maxHeartbeats 8000000 in
theorem am_in5_9 : ∀ e ∈ am_imt_9, am_f5 e ∈ lw_tbl := am_pickF am_f5 _ [(8, 58), (8, 50), (8, 54), (8, 46), (8, 210), (8, 201), (8, 205), (8, 213), (9, 11), (8, 222), (9, 27), (9, 19), (9, 15), (8, 235), (8, 239), (8, 231), (8, 227), (9, 7), (9, 31), (9, 35), (9, 23), (9, 46), (9, 39), (9, 3), (8, 217)] (by decide +kernel)
set_option maxRecDepth 1000000 in
set_option maxHeartbeats 8000000 in
theorem am_in5_10 : ∀ e ∈ am_imt_10, am_f5 e ∈ lw_tbl := am_pickF am_f5 _ [(9, 50), (9, 59), (9, 54), (9, 62), (9, 66), (9, 70), (9, 87), (9, 83), (9, 79), (9, 74)] (by decide +kernel)
theorem am_in5 : ∀ e ∈ am_imt, am_f5 e ∈ lw_tbl := List.forall_mem_append.mpr ⟨am_in5_0, List.forall_mem_append.mpr ⟨am_in5_1, List.forall_mem_append.mpr ⟨am_in5_2, List.forall_mem_append.mpr ⟨am_in5_3, List.forall_mem_append.mpr ⟨am_in5_4, List.forall_mem_append.mpr ⟨am_in5_5, List.forall_mem_append.mpr ⟨am_in5_6, List.forall_mem_append.mpr ⟨am_in5_7, List.forall_mem_append.mpr ⟨am_in5_8, List.forall_mem_append.mpr ⟨am_in5_9, am_in5_10⟩⟩⟩⟩⟩⟩⟩⟩⟩⟩
def am_f6 : String → Cond := Cond.initialized
set_option maxRecDepth 1000000 in
set_option maxHeartbeats 8000000 in
theorem am_in6_0 : ∀ e ∈ am_cnl, am_f6 e ∈ lw_tbl := am_pickF am_f6 _ [(1, 4), (1, 3), (1, 5), (1, 7), (1, 10), (1, 8), (1, 2), (1, 6), (1, 12), (1, 11), (1, 9), (1, 1), (1, 13), (1, 0)] (by decide +kernel)
theorem am_in6 : ∀ e ∈ am_cnl, am_f6 e ∈ lw_tbl := am_in6_0
def am_f7 : Nat → Cond := fun n => Cond.initialized (am_xn n)
set_option maxRecDepth 1000000 in
set_option maxHeartbeats 8000000 in
theorem am_in7_0 : ∀ e ∈ am_E3, am_f7 e ∈ lw_tbl := am_pickF am_f7 _ [(1, 19), (1, 18), (1, 17)] (by decide +kernel)
theorem am_in7 : ∀ e ∈ am_E3, am_f7 e ∈ lw_tbl := am_in7_0
def am_f8 : Nat × Nat × Nat → Cond := am_mlw
set_option maxRecDepth 1000000 in
set_option maxHeartbeats 8000000 in
theorem am_in8_0 : ∀ e ∈ am_SLt_0, am_f8 e ∈ lw_tbl := am_pickF am_f8 _ [(3, 222), (4, 61), (3, 68), (2, 138), (5, 155), (6, 125), (7, 182), (7, 189), (7, 179), (8, 96), (8, 143), (2, 205), (3, 60), (3, 87), (3, 94), (3, 122), (3, 129), (3, 136), (3, 143), (3, 150), (3, 157), (3, 165), (3, 172), (3, 179), (4, 49)] (by decide +kernel)
set_option maxRecDepth 1000000 in
set_option maxHeartbeats 8000000 in
theorem am_in8_1 : ∀ e ∈ am_SLt_1, am_f8 e ∈ lw_tbl := am_pickF am_f8 _ [(4, 65), (5, 89), (5, 101), (5, 116), (5, 124), (5, 140), (5, 148), (6, 98), (6, 106), (6, 118), (6, 126)] (by decide +kernel)
theorem am_in8 : ∀ e ∈ am_SLt, am_f8 e ∈ lw_tbl := List.forall_mem_append.mpr ⟨am_in8_0, am_in8_1⟩
def am_f9 : Nat × Nat × Nat → Cond := am_mlw
set_option maxRecDepth 1000000 in
set_option maxHeartbeats 8000000 in
theorem am_in9_0 : ∀ e ∈ am_ILt, am_f9 e ∈ lw_tbl := am_pickF am_f9 _ [(1, 78), (1, 145), (1, 195), (1, 36), (1, 139), (1, 142), (1, 73), (1, 109), (1, 112), (1, 134), (2, 84), (1, 22), (6, 161)] (by decide +kernel)
theorem am_in9 : ∀ e ∈ am_ILt, am_f9 e ∈ lw_tbl := am_in9_0
def am_f10 : Nat × Nat × Nat × Nat → Cond := fun e => am_mlw (e.1, e.2.1, e.2.2.1)
set_option maxRecDepth 1000000 in
set_option maxHeartbeats 8000000 in
theorem am_in10_0 : ∀ e ∈ am_VLt_0, am_f10 e ∈ lw_tbl := am_pickF am_f10 _ [(3, 190), (3, 198), (3, 225), (3, 225), (3, 202), (3, 202), (3, 203), (3, 203), (3, 204), (3, 204), (3, 205), (3, 209), (3, 209), (3, 210), (3, 210), (3, 211), (3, 217), (4, 5), (4, 5), (2, 160), (2, 160), (2, 166), (2, 166), (2, 172), (2, 172)] (by decide +kernel)
set_option maxRecDepth 1000000 in
set_option maxHeartbeats 8000000 in
theorem am_in10_1 : ∀ e ∈ am_VLt_1, am_f10 e ∈ lw_tbl := am_pickF am_f10 _ [(2, 178), (2, 178), (2, 184), (2, 184), (2, 153), (2, 153), (2, 154), (2, 154), (3, 237), (3, 237), (3, 231), (3, 231), (5, 11), (5, 11), (4, 18), (4, 18), (4, 19), (4, 19), (4, 25), (4, 45), (4, 29), (4, 33), (4, 33), (4, 39), (4, 39)] (by decide +kernel)
set_option maxRecDepth 1000000 in
set_option maxHeartbeats 8000000 in
theorem am_in10_2 : ∀ e ∈ am_VLt_2, am_f10 e ∈ lw_tbl := am_pickF am_f10 _ [(4, 80), (4, 92), (4, 85), (4, 85), (4, 97), (4, 101), (4, 101), (4, 105), (4, 109), (4, 109), (4, 110), (4, 110), (4, 111), (4, 118), (4, 118), (4, 119), (4, 123), (4, 128), (4, 128), (4, 129), (4, 133), (4, 133), (4, 134), (4, 127), (4, 127)] (by decide +kernel)
set_option maxRecDepth 1000000 in
set_option maxHeartbeats 8000000 in
theorem am_in10_3 : ∀ e ∈ am_VLt_3, am_f10 e ∈ lw_tbl := am_pickF am_f10 _ [(4, 179), (4, 179), (5, 20), (5, 20), (5, 21), (5, 21), (5, 22), (5, 23), (5, 24), (5, 163), (5, 168), (5, 168), (5, 169), (5, 169), (5, 170), (5, 177), (5, 182), (5, 231), (6, 29), (6, 63), (6, 67), (6, 88), (6, 93), (5, 186), (5, 235)] (by decide +kernel)
set_option maxRecDepth 1000000 in
set_option maxHeartbeats 8000000 in
theorem am_in10_4 : ∀ e ∈ am_VLt_4, am_f10 e ∈ lw_tbl := am_pickF am_f10 _ [(5, 235), (5, 236), (5, 236), (5, 237), (6, 1), (6, 1), (6, 2), (6, 15), (6, 15), (6, 6), (6, 6), (6, 7), (6, 16), (5, 209), (5, 195), (6, 11), (6, 20), (6, 24), (5, 191), (5, 201), (5, 205), (5, 213), (6, 33), (6, 37), (6, 42)] (by decide +kernel)
set_option maxRecDepth 1000000 in
set_option maxHeartbeats 8000000 in
theorem am_in10_5 : ∀ e ∈ am_VLt_5, am_f10 e ∈ lw_tbl := am_pickF am_f10 _ [(6, 48), (6, 53), (6, 59), (6, 46), (6, 57), (6, 57), (6, 58), (6, 58), (2, 221), (2, 221), (3, 59), (3, 59), (4, 143), (4, 147), (4, 148), (4, 148), (4, 149), (4, 149), (4, 150), (4, 150), (4, 151), (4, 155), (5, 41), (5, 70), (5, 74)] (by decide +kernel)
set_option maxRecDepth 1000000 in
set_option maxHeartbeats 8000000 in
theorem am_in10_6 : ∀ e ∈ am_VLt_6, am_f10 e ∈ lw_tbl := am_pickF am_f10 _ [(4, 189), (4, 189), (5, 83), (5, 83), (5, 82), (5, 82), (5, 45), (5, 53), (5, 57), (5, 61), (5, 66), (4, 159), (4, 159), (4, 160), (4, 235), (5, 25), (5, 30), (5, 34), (4, 164), (4, 164), (4, 165), (4, 165), (4, 166), (4, 174), (4, 174)] (by decide +kernel)
set_option maxRecDepth 1000000 in
set_option maxHeartbeats 8000000 in
theorem am_in10_7 : ∀ e ∈ am_VLt_7, am_f10 e ∈ lw_tbl := am_pickF am_f10 _ [(4, 175), (4, 184), (4, 184), (4, 185), (4, 222), (4, 190), (4, 190), (4, 196), (4, 200), (4, 226), (4, 226), (4, 234), (4, 234), (4, 239), (4, 239), (5, 5), (5, 5), (5, 12), (5, 16), (5, 29), (5, 29), (5, 49), (5, 65), (6, 137), (6, 143)] (by decide +kernel)
set_option maxRecDepth 1000000 in
set_option maxHeartbeats 8000000 in
theorem am_in10_8 : ∀ e ∈ am_VLt_8, am_f10 e ∈ lw_tbl := am_pickF am_f10 _ [(6, 147), (6, 148), (6, 149), (6, 150), (6, 154), (6, 154), (6, 155), (6, 155), (6, 156), (6, 156), (6, 157), (6, 158), (6, 158), (6, 71), (6, 72), (6, 77), (6, 81), (6, 82), (6, 87), (5, 217), (5, 218), (5, 219), (5, 220), (5, 225), (6, 41)] (by decide +kernel)
set_option maxRecDepth 1000000 in
set_option maxHeartbeats 8000000 in
theorem am_in10_9 : ∀ e ∈ am_VLt_9, am_f10 e ∈ lw_tbl := am_pickF am_f10 _ [(2, 213), (3, 102), (3, 186), (4, 12), (4, 12), (2, 141), (2, 141), (4, 57), (4, 72), (4, 76), (4, 138), (5, 85), (2, 134), (2, 147), (2, 147), (5, 96), (5, 108), (5, 108), (5, 123), (5, 123), (5, 131), (5, 136), (5, 147), (5, 147), (5, 159)] (by decide +kernel)
set_option maxRecDepth 1000000 in
set_option maxHeartbeats 8000000 in
theorem am_in10_10 : ∀ e ∈ am_VLt_10, am_f10 e ∈ lw_tbl := am_pickF am_f10 _ [(5, 226), (6, 113), (2, 201), (6, 133), (2, 217), (3, 50), (3, 55), (7, 167), (7, 171), (7, 163), (7, 196), (8, 92), (8, 0), (8, 4), (7, 236), (8, 12), (8, 16), (8, 8), (8, 28), (8, 24), (8, 32), (8, 115), (8, 119), (8, 103), (8, 107)] (by decide +kernel)
set_option maxRecDepth 1000000 in
set_option maxHeartbeats 8000000 in
theorem am_in10_11 : ∀ e ∈ am_VLt_11, am_f10 e ∈ lw_tbl := am_pickF am_f10 _ [(8, 127), (8, 123), (8, 20), (8, 84), (8, 88), (8, 99), (8, 80), (8, 111), (8, 131), (8, 135), (8, 139), (8, 48), (8, 64), (8, 166), (8, 76), (8, 146), (8, 150), (8, 154), (8, 158), (8, 162), (8, 68), (8, 72), (8, 44), (8, 178), (8, 191)] (by decide +kernel)
set_option maxRecDepth 1000000 in
set_option maxHeartbeats 8000000 in
theorem am_in10_12 : ∀ e ∈ am_VLt_12, am_f10 e ∈ lw_tbl := am_pickF am_f10 _ [(8, 196), (8, 187), (8, 60), (8, 52), (8, 56), (8, 208), (9, 17), (8, 220), (8, 229), (8, 233), (8, 237), (9, 9), (9, 13), (8, 225), (9, 21), (9, 25), (9, 29), (9, 44), (9, 5), (9, 33), (9, 37), (9, 1), (9, 57), (9, 85), (9, 81)] (by decide +kernel)
set_option maxRecDepth 1000000 in
set_option maxHeartbeats 8000000 in
theorem am_in10_13 : ∀ e ∈ am_VLt_13, am_f10 e ∈ lw_tbl := am_pickF am_f10 _ [(9, 77), (2, 209), (3, 64), (3, 90), (3, 98), (3, 125), (3, 132), (3, 139), (3, 146), (3, 153), (3, 160), (3, 168), (3, 175), (3, 182), (4, 52), (4, 68), (5, 92), (5, 104), (5, 119), (5, 127), (5, 143), (5, 151), (6, 101), (6, 109), (6, 121)] (by decide +kernel)
set_option maxRecDepth 1000000 in
set_option maxHeartbeats 8000000 in
theorem am_in10_14 : ∀ e ∈ am_VLt_14, am_f10 e ∈ lw_tbl := am_pickF am_f10 _ [(6, 129), (7, 159), (7, 155), (7, 175), (7, 185), (7, 192), (7, 200), (7, 204), (7, 208), (7, 212), (7, 216), (7, 220), (7, 224), (7, 228), (7, 232), (8, 36), (8, 40), (2, 130), (8, 170), (8, 174), (8, 182), (8, 200), (8, 204), (8, 212), (8, 216)] (by decide +kernel)
set_option maxRecDepth 1000000 in
set_option maxHeartbeats 8000000 in
theorem am_in10_15 : ∀ e ∈ am_VLt_15, am_f10 e ∈ lw_tbl := am_pickF am_f10 _ [(9, 49), (9, 53), (2, 193), (9, 61), (2, 197), (9, 65), (9, 69), (9, 73)] (by decide +kernel)
theorem am_in10 : ∀ e ∈ am_VLt, am_f10 e ∈ lw_tbl := List.forall_mem_append.mpr ⟨am_in10_0, List.forall_mem_append.mpr ⟨am_in10_1, List.forall_mem_append.mpr ⟨am_in10_2, List.forall_mem_append.mpr ⟨am_in10_3, List.forall_mem_append.mpr ⟨am_in10_4, List.forall_mem_append.mpr ⟨am_in10_5, List.forall_mem_append.mpr ⟨am_in10_6, List.forall_mem_append.mpr ⟨am_in10_7, List.forall_mem_append.mpr ⟨am_in10_8, List.forall_mem_append.mpr ⟨am_in10_9, List.forall_mem_append.mpr ⟨am_in10_10, List.forall_mem_append.mpr ⟨am_in10_11, List.forall_mem_append.mpr ⟨am_in10_12, List.forall_mem_append.mpr ⟨am_in10_13, List.forall_mem_append.mpr ⟨am_in10_14, am_in10_15⟩⟩⟩⟩⟩⟩⟩⟩⟩⟩⟩⟩⟩⟩⟩
def am_f11 : Nat × Nat × Nat × Nat → Cond := fun e => Cond.selects (am_cn e.2.2.2) (am_yn e.2.2.1) (am_yn e.2.2.1)
set_option maxRecDepth 1000000 in
set_option maxHeartbeats 8000000 in
theorem am_in11_0 : ∀ e ∈ am_VLt_0, am_f11 e ∈ lw_tbl := am_pickF am_f11 _ [(0, 4), (0, 5), (3, 227), (3, 229), (2, 162), (2, 164), (2, 168), (2, 170), (2, 174), (2, 176), (0, 6), (2, 186), (2, 188), (2, 180), (2, 182), (0, 7), (3, 219), (4, 7), (4, 9), (2, 162), (2, 164), (2, 168), (2, 170), (2, 174), (2, 176)] (by decide +kernel)
set_option maxRecDepth 1000000 in
set_option maxHeartbeats 8000000 in
theorem am_in11_1 : ∀ e ∈ am_VLt_1, am_f11 e ∈ lw_tbl := am_pickF am_f11 _ [(2, 180), (2, 182), (2, 186), (2, 188), (2, 143), (2, 145), (2, 156), (2, 158), (3, 239), (4, 1), (3, 233), (3, 235), (5, 1), (5, 3), (2, 149), (2, 151), (4, 21), (4, 23), (0, 8), (0, 10), (0, 9), (4, 35), (4, 37), (4, 41), (4, 43)] (by decide +kernel)
set_option maxRecDepth 1000000 in
set_option maxHeartbeats 8000000 in
theorem am_in11_2 : ∀ e ∈ am_VLt_2, am_f11 e ∈ lw_tbl := am_pickF am_f11 _ [(0, 11), (0, 12), (4, 87), (4, 89), (4, 99), (4, 7), (4, 9), (0, 13), (2, 162), (2, 164), (2, 168), (2, 170), (0, 14), (3, 239), (4, 1), (0, 15), (0, 16), (4, 35), (4, 37), (4, 131), (4, 41), (4, 43), (0, 17), (2, 180), (2, 182)] (by decide +kernel)
set_option maxRecDepth 1000000 in
set_option maxHeartbeats 8000000 in
theorem am_in11_3 : ∀ e ∈ am_VLt_3, am_f11 e ∈ lw_tbl := am_pickF am_f11 _ [(4, 7), (4, 9), (2, 162), (2, 164), (2, 168), (2, 170), (4, 177), (4, 202), (4, 198), (5, 165), (2, 149), (2, 151), (2, 143), (2, 145), (5, 172), (5, 179), (0, 37), (0, 39), (0, 43), (0, 49), (6, 69), (6, 90), (6, 95), (5, 188), (2, 162)] (by decide +kernel)
set_option maxRecDepth 1000000 in
set_option maxHeartbeats 8000000 in
theorem am_in11_4 : ∀ e ∈ am_VLt_4, am_f11 e ∈ lw_tbl := am_pickF am_f11 _ [(2, 164), (2, 180), (2, 182), (0, 40), (3, 239), (4, 1), (0, 41), (4, 35), (4, 37), (2, 168), (2, 170), (6, 9), (0, 42), (0, 38), (5, 197), (6, 13), (6, 22), (6, 26), (5, 193), (5, 203), (5, 207), (5, 215), (0, 44), (6, 39), (0, 45)] (by decide +kernel)
set_option maxRecDepth 1000000 in
set_option maxHeartbeats 8000000 in
theorem am_in11_5 : ∀ e ∈ am_VLt_5, am_f11 e ∈ lw_tbl := am_pickF am_f11 _ [(0, 46), (0, 47), (0, 48), (5, 222), (2, 174), (2, 176), (4, 41), (4, 43), (2, 143), (2, 145), (2, 186), (2, 188), (4, 145), (4, 99), (4, 7), (4, 9), (2, 156), (2, 158), (3, 233), (3, 235), (4, 153), (0, 18), (0, 27), (5, 72), (0, 34)] (by decide +kernel)
set_option maxRecDepth 1000000 in
set_option maxHeartbeats 8000000 in
theorem am_in11_6 : ∀ e ∈ am_VLt_6, am_f11 e ∈ lw_tbl := am_pickF am_f11 _ [(2, 143), (2, 145), (4, 14), (4, 16), (2, 149), (2, 151), (0, 28), (0, 30), (0, 31), (0, 32), (0, 33), (2, 162), (2, 164), (0, 19), (0, 22), (0, 24), (0, 25), (0, 26), (3, 239), (4, 1), (2, 168), (2, 170), (4, 168), (4, 35), (4, 37)] (by decide +kernel)
set_option maxRecDepth 1000000 in
set_option maxHeartbeats 8000000 in
theorem am_in11_7 : ∀ e ∈ am_VLt_7, am_f11 e ∈ lw_tbl := am_pickF am_f11 _ [(4, 177), (2, 180), (2, 182), (0, 20), (0, 21), (4, 192), (4, 194), (4, 198), (4, 202), (4, 228), (4, 230), (4, 41), (4, 43), (5, 1), (5, 3), (5, 7), (5, 9), (0, 23), (5, 18), (2, 174), (2, 176), (0, 29), (4, 131), (0, 53), (0, 54)] (by decide +kernel)
set_option maxRecDepth 1000000 in
set_option maxHeartbeats 8000000 in
theorem am_in11_8 : ∀ e ∈ am_VLt_8, am_f11 e ∈ lw_tbl := am_pickF am_f11 _ [(5, 188), (5, 203), (5, 207), (0, 55), (4, 7), (4, 9), (2, 162), (2, 164), (2, 168), (2, 170), (6, 9), (2, 180), (2, 182), (5, 188), (0, 50), (5, 222), (5, 207), (0, 51), (5, 203), (5, 188), (5, 203), (5, 207), (5, 222), (5, 172), (5, 215)] (by decide +kernel)
set_option maxRecDepth 1000000 in
set_option maxHeartbeats 8000000 in
theorem am_in11_9 : ∀ e ∈ am_VLt_9, am_f11 e ∈ lw_tbl := am_pickF am_f11 _ [(0, 1), (0, 3), (3, 188), (4, 14), (4, 16), (2, 143), (2, 145), (4, 59), (4, 74), (4, 78), (4, 140), (5, 87), (0, 0), (2, 149), (2, 151), (0, 35), (5, 110), (5, 112), (4, 87), (4, 89), (0, 36), (5, 138), (5, 1), (5, 3), (5, 161)] (by decide +kernel)
set_option maxRecDepth 1000000 in
set_option maxHeartbeats 8000000 in
theorem am_in11_10 : ∀ e ∈ am_VLt_10, am_f11 e ∈ lw_tbl := am_pickF am_f11 _ [(5, 228), (0, 52), (2, 203), (6, 135), (2, 219), (3, 52), (3, 57), (0, 57), (0, 58), (0, 56), (0, 59), (0, 82), (0, 61), (0, 62), (0, 60), (0, 64), (0, 65), (0, 63), (0, 68), (0, 67), (0, 69), (0, 87), (0, 88), (0, 84), (0, 85)] (by decide +kernel)
set_option maxRecDepth 1000000 in
set_option maxHeartbeats 8000000 in
theorem am_in11_11 : ∀ e ∈ am_VLt_11, am_f11 e ∈ lw_tbl := am_pickF am_f11 _ [(0, 90), (0, 89), (0, 66), (0, 80), (0, 81), (0, 83), (0, 79), (0, 86), (0, 91), (0, 92), (0, 93), (0, 71), (0, 75), (0, 99), (0, 78), (0, 94), (0, 95), (0, 96), (0, 97), (0, 98), (0, 76), (0, 77), (0, 70), (0, 100), (0, 102)] (by decide +kernel)
set_option maxRecDepth 1000000 in
set_option maxHeartbeats 8000000 in
theorem am_in11_12 : ∀ e ∈ am_VLt_12, am_f11 e ∈ lw_tbl := am_pickF am_f11 _ [(0, 103), (0, 101), (0, 74), (0, 72), (0, 73), (0, 104), (0, 114), (0, 105), (0, 107), (0, 108), (0, 109), (0, 112), (0, 113), (0, 106), (0, 115), (0, 116), (0, 117), (0, 120), (0, 111), (0, 118), (0, 119), (0, 110), (0, 121), (0, 124), (0, 123)] (by decide +kernel)
set_option maxRecDepth 1000000 in
set_option maxHeartbeats 8000000 in
theorem am_in11_13 : ∀ e ∈ am_VLt_13, am_f11 e ∈ lw_tbl := am_pickF am_f11 _ [(0, 122), (2, 211), (3, 66), (3, 92), (3, 100), (3, 127), (3, 134), (3, 141), (3, 148), (3, 155), (3, 162), (3, 170), (3, 177), (3, 184), (4, 54), (4, 70), (5, 94), (5, 106), (5, 121), (5, 129), (5, 145), (5, 153), (6, 103), (6, 111), (6, 123)] (by decide +kernel)
set_option maxRecDepth 1000000 in
set_option maxHeartbeats 8000000 in
theorem am_in11_14 : ∀ e ∈ am_VLt_14, am_f11 e ∈ lw_tbl := am_pickF am_f11 _ [(6, 131), (7, 161), (7, 157), (7, 177), (7, 187), (7, 194), (7, 202), (7, 206), (7, 210), (7, 214), (7, 218), (7, 222), (7, 226), (7, 230), (7, 234), (8, 38), (8, 42), (2, 132), (8, 172), (8, 176), (8, 184), (8, 202), (8, 206), (8, 214), (8, 218)] (by decide +kernel)
set_option maxRecDepth 1000000 in
set_option maxHeartbeats 8000000 in
theorem am_in11_15 : ∀ e ∈ am_VLt_15, am_f11 e ∈ lw_tbl := am_pickF am_f11 _ [(9, 51), (9, 55), (2, 195), (9, 63), (2, 199), (9, 67), (9, 71), (9, 75)] (by decide +kernel)
theorem am_in11 : ∀ e ∈ am_VLt, am_f11 e ∈ lw_tbl := List.forall_mem_append.mpr ⟨am_in11_0, List.forall_mem_append.mpr ⟨am_in11_1, List.forall_mem_append.mpr ⟨am_in11_2, List.forall_mem_append.mpr ⟨am_in11_3, List.forall_mem_append.mpr ⟨am_in11_4, List.forall_mem_append.mpr ⟨am_in11_5, List.forall_mem_append.mpr ⟨am_in11_6, List.forall_mem_append.mpr ⟨am_in11_7, List.forall_mem_append.mpr ⟨am_in11_8, List.forall_mem_append.mpr ⟨am_in11_9, List.forall_mem_append.mpr ⟨am_in11_10, List.forall_mem_append.mpr ⟨am_in11_11, List.forall_mem_append.mpr ⟨am_in11_12, List.forall_mem_append.mpr ⟨am_in11_13, List.forall_mem_append.mpr ⟨am_in11_14, am_in11_15⟩⟩⟩⟩⟩⟩⟩⟩⟩⟩⟩⟩⟩⟩⟩
def am_f12 : Nat × Nat × Nat × Nat → Cond := fun e => Cond.methodLink (am_cn e.1) e.2.1 (am_xx e)
set_option maxRecDepth 1000000 in
set_option maxHeartbeats 8000000 in
theorem am_in12_0 : ∀ e ∈ am_ULt, am_f12 e ∈ lw_tbl := am_pickF am_f12 _ [(4, 170), (4, 180), (4, 204), (4, 208), (4, 212), (4, 218), (5, 78)] (by decide +kernel)
theorem am_in12 : ∀ e ∈ am_ULt, am_f12 e ∈ lw_tbl := am_in12_0
def am_f13 : Nat × Nat × Nat × Nat → Cond := fun e => Cond.sameMethod (am_xx e).cls (am_yn e.2.2.1).cls (am_xx e).name (am_xx e).desc
set_option maxRecDepth 1000000 in
set_option maxHeartbeats 8000000 in
theorem am_in13_0 : ∀ e ∈ am_ULt, am_f13 e ∈ lw_tbl := am_pickF am_f13 _ [(4, 171), (4, 181), (4, 205), (4, 209), (4, 213), (4, 219), (5, 79)] (by decide +kernel)
theorem am_in13 : ∀ e ∈ am_ULt, am_f13 e ∈ lw_tbl := am_in13_0
def am_f14 : Nat × Nat × Nat × Nat → Cond := fun e => Cond.selects (am_cn e.2.2.2) (am_xx e) (am_yn e.2.2.1)
set_option maxRecDepth 1000000 in
set_option maxHeartbeats 8000000 in
theorem am_in14_0 : ∀ e ∈ am_ULt, am_f14 e ∈ lw_tbl := am_pickF am_f14 _ [(4, 173), (4, 183), (4, 207), (4, 211), (4, 215), (4, 221), (5, 81)] (by decide +kernel)
theorem am_in14 : ∀ e ∈ am_ULt, am_f14 e ∈ lw_tbl := am_in14_0
def am_f15 : Nat × Nat × Nat → Cond := fun e => Cond.classLink (am_cn e.1) e.2.1 (am_cn e.2.2)
set_option maxRecDepth 1000000 in
set_option maxHeartbeats 8000000 in
theorem am_in15_0 : ∀ e ∈ am_NWt, am_f15 e ∈ lw_tbl := am_pickF am_f15 _ [(1, 77), (1, 194), (1, 196), (1, 230), (2, 17), (1, 34), (1, 138), (1, 140), (1, 28), (1, 71), (1, 108), (1, 110), (1, 132), (1, 188), (2, 82), (1, 20), (6, 159)] (by decide +kernel)
theorem am_in15 : ∀ e ∈ am_NWt, am_f15 e ∈ lw_tbl := am_in15_0
def am_f16 : vw_C → Cond := fun q => Cond.instantiable q.1 q.2.2
set_option maxRecDepth 1000000 in
set_option maxHeartbeats 8000000 in
theorem am_in16_0 : ∀ e ∈ am_cl, am_f16 e ∈ lw_tbl := am_pickF am_f16 _ [(1, 72), (1, 35), (1, 111), (1, 141), (1, 231), (1, 189), (1, 29), (1, 133), (2, 83), (2, 18), (1, 197), (1, 21), (6, 160)] (by decide +kernel)
theorem am_in16 : ∀ e ∈ am_cl, am_f16 e ∈ lw_tbl := am_in16_0
def am_f17 : FieldType → Cond := Cond.arrayClass
set_option maxRecDepth 1000000 in
set_option maxHeartbeats 8000000 in
theorem am_in17_0 : ∀ e ∈ am_aty, am_f17 e ∈ lw_tbl := am_pickF am_f17 _ [(1, 57), (1, 58), (2, 104)] (by decide +kernel)
theorem am_in17 : ∀ e ∈ am_aty, am_f17 e ∈ lw_tbl := am_in17_0
def am_f18 : Nat × Nat × Nat → Cond := fun e => Cond.classLink (am_cn e.1) e.2.1 (am_xn e.2.2)
set_option maxRecDepth 1000000 in
set_option maxHeartbeats 8000000 in
theorem am_in18_0 : ∀ e ∈ am_HLt, am_f18 e ∈ lw_tbl := am_pickF am_f18 _ [(2, 208), (3, 63), (3, 97)] (by decide +kernel)
theorem am_in18 : ∀ e ∈ am_HLt, am_f18 e ∈ lw_tbl := am_in18_0
def am_f19 : Nat × Nat → Cond := fun e => Cond.methodLink (am_cn e.1) e.2 Lib.objectInit
set_option maxRecDepth 1000000 in
set_option maxHeartbeats 8000000 in
theorem am_in19_0 : ∀ e ∈ am_OLt, am_f19 e ∈ lw_tbl := am_pickF am_f19 _ [(1, 76), (1, 39), (1, 115), (1, 235), (1, 193), (1, 33), (1, 137), (2, 87), (2, 22), (1, 201), (1, 25), (6, 164)] (by decide +kernel)
theorem am_in19 : ∀ e ∈ am_OLt, am_f19 e ∈ lw_tbl := am_in19_0
def am_f20 : Nat → Cond := fun _ => Cond.instanceMethod Lib.objectInit
set_option maxRecDepth 1000000 in
set_option maxHeartbeats 8000000 in
theorem am_in20_0 : ∀ e ∈ am_one, am_f20 e ∈ lw_tbl := am_pickF am_f20 _ [(1, 26)] (by decide +kernel)
theorem am_in20 : ∀ e ∈ am_one, am_f20 e ∈ lw_tbl := am_in20_0
def am_f21 : Nat → Cond := fun _ => Cond.code Lib.objectInit ⟨#[0xb1]⟩ 1 none
set_option maxRecDepth 1000000 in
set_option maxHeartbeats 8000000 in
theorem am_in21_0 : ∀ e ∈ am_one, am_f21 e ∈ lw_tbl := am_pickF am_f21 _ [(1, 27)] (by decide +kernel)
theorem am_in21 : ∀ e ∈ am_one, am_f21 e ∈ lw_tbl := am_in21_0
def am_f22 : Nat × Nat × Nat → Cond := fun e => Cond.classLink (am_cn 11) e.1 (am_xn e.2.2)
set_option maxRecDepth 1000000 in
set_option maxHeartbeats 8000000 in
theorem am_in22_0 : ∀ e ∈ am_XTt, am_f22 e ∈ lw_tbl := am_pickF am_f22 _ [(3, 71), (2, 222), (3, 106)] (by decide +kernel)
theorem am_in22 : ∀ e ∈ am_XTt, am_f22 e ∈ lw_tbl := am_in22_0
def am_f23 : Nat × Nat × Nat × Nat → Cond := am_fnw
set_option maxRecDepth 1000000 in
set_option maxHeartbeats 8000000 in
theorem am_in23_0 : ∀ e ∈ am_FNt, am_f23 e ∈ lw_tbl := am_pickF am_f23 _ [(1, 60), (2, 5), (1, 239), (2, 1), (1, 237), (2, 3), (1, 45), (1, 45), (1, 147), (2, 38), (2, 40), (1, 81), (1, 166), (2, 50), (2, 52), (2, 44), (2, 27), (2, 41), (2, 46), (2, 48), (1, 63)] (by decide +kernel)
theorem am_in23 : ∀ e ∈ am_FNt, am_f23 e ∈ lw_tbl := am_in23_0
def am_f24 : Nat × Nat → Cond := fun e => Cond.fieldLinkNest (am_cn e.1) e.2 am_sC am_sN am_sD "SpinelessHall"
set_option maxRecDepth 1000000 in
set_option maxHeartbeats 8000000 in
theorem am_in24_0 : ∀ e ∈ am_STt, am_f24 e ∈ lw_tbl := am_pickF am_f24 _ [(3, 215), (4, 3), (4, 232)] (by decide +kernel)
theorem am_in24 : ∀ e ∈ am_STt, am_f24 e ∈ lw_tbl := am_in24_0
def am_f25 : Nat × Nat × Nat → Cond := am_mnw
set_option maxRecDepth 1000000 in
set_option maxHeartbeats 8000000 in
theorem am_in25_0 : ∀ e ∈ am_SNt_0, am_f25 e ∈ lw_tbl := am_pickF am_f25 _ [(3, 195), (3, 194), (2, 190), (4, 4), (4, 91), (4, 84), (4, 96), (4, 115), (4, 102), (5, 199), (5, 200), (5, 167), (5, 176), (6, 28), (6, 47), (6, 52), (3, 221), (3, 54), (4, 64), (4, 142), (4, 233), (5, 38), (6, 142), (6, 141), (6, 86)] (by decide +kernel)
set_option maxRecDepth 1000000 in
set_option maxHeartbeats 8000000 in
theorem am_in25_1 : ∀ e ∈ am_SNt_1, am_f25 e ∈ lw_tbl := am_pickF am_f25 _ [(6, 92), (5, 190), (5, 224), (5, 174), (5, 175)] (by decide +kernel)
theorem am_in25 : ∀ e ∈ am_SNt, am_f25 e ∈ lw_tbl := List.forall_mem_append.mpr ⟨am_in25_0, am_in25_1⟩
def am_f26 : Nat × Nat × Nat → Cond := am_mnw
set_option maxRecDepth 1000000 in
set_option maxHeartbeats 8000000 in
theorem am_in26_0 : ∀ e ∈ am_INt, am_f26 e ∈ lw_tbl := am_pickF am_f26 _ [(1, 198), (1, 232), (2, 19), (1, 30), (1, 190)] (by decide +kernel)
theorem am_in26 : ∀ e ∈ am_INt, am_f26 e ∈ lw_tbl := am_in26_0
def am_f27 : Nat → Cond := fun n => Cond.castable (am_xn n) (am_xn n)
set_option maxRecDepth 1000000 in
set_option maxHeartbeats 8000000 in
theorem am_in27_0 : ∀ e ∈ am_E3, am_f27 e ∈ lw_tbl := am_pickF am_f27 _ [(3, 108), (3, 73), (2, 224)] (by decide +kernel)
theorem am_in27 : ∀ e ∈ am_E3, am_f27 e ∈ lw_tbl := am_in27_0
set_option maxRecDepth 1000000 in
set_option maxHeartbeats 8000000 in
theorem am_inF0 : ∀ w ∈ u_ws "SpinelessHall$Binder" am_F0 9, w ∈ lw_tbl := am_pickW _ [(1, 89), (1, 91), (1, 93), (1, 95), (1, 97), (1, 99), (1, 101), (1, 103), (1, 105)] (by decide +kernel)
set_option maxRecDepth 1000000 in
set_option maxHeartbeats 8000000 in
theorem am_inF1 : ∀ w ∈ u_ws "SpinelessHall$Code" am_F1 5, w ∈ lw_tbl := am_pickW _ [(1, 46), (1, 48), (1, 50), (1, 52), (1, 54)] (by decide +kernel)
set_option maxRecDepth 1000000 in
set_option maxHeartbeats 8000000 in
theorem am_inF2 : ∀ w ∈ u_ws "SpinelessHall$Demand" am_F2 5, w ∈ lw_tbl := am_pickW _ [(1, 121), (1, 123), (1, 125), (1, 127), (1, 129)] (by decide +kernel)
set_option maxRecDepth 1000000 in
set_option maxHeartbeats 8000000 in
theorem am_inF3 : ∀ w ∈ u_ws "SpinelessHall$Draft" am_F3 7, w ∈ lw_tbl := am_pickW _ [(1, 153), (1, 154), (1, 155), (1, 156), (1, 157), (1, 149), (1, 151)] (by decide +kernel)
set_option maxRecDepth 1000000 in
set_option maxHeartbeats 8000000 in
theorem am_inF4 : ∀ w ∈ u_ws "SpinelessHall$Frames" am_F4 5, w ∈ lw_tbl := am_pickW _ [(2, 6), (2, 8), (2, 10), (2, 12), (2, 14)] (by decide +kernel)
set_option maxRecDepth 1000000 in
set_option maxHeartbeats 8000000 in
theorem am_inF5 : ∀ w ∈ u_ws "SpinelessHall$Machine" am_F5 12, w ∈ lw_tbl := am_pickW _ [(2, 57), (2, 59), (2, 61), (2, 63), (2, 65), (2, 67), (2, 69), (2, 71), (2, 73), (2, 75), (2, 77), (2, 79)] (by decide +kernel)
set_option maxRecDepth 1000000 in
set_option maxHeartbeats 8000000 in
theorem am_inF6 : ∀ w ∈ u_ws "SpinelessHall$Nodes" am_F6 3, w ∈ lw_tbl := am_pickW _ [(1, 64), (1, 66), (1, 68)] (by decide +kernel)
set_option maxRecDepth 1000000 in
set_option maxHeartbeats 8000000 in
theorem am_inF7 : ∀ w ∈ u_ws "SpinelessHall$Passes" am_F7 9, w ∈ lw_tbl := am_pickW _ [(1, 169), (1, 171), (1, 173), (1, 175), (1, 177), (1, 179), (1, 181), (1, 183), (1, 185)] (by decide +kernel)
set_option maxRecDepth 1000000 in
set_option maxHeartbeats 8000000 in
theorem am_inF8 : ∀ w ∈ u_ws "SpinelessHall$Reach" am_F8 5, w ∈ lw_tbl := am_pickW _ [(2, 93), (2, 95), (2, 97), (2, 99), (2, 101)] (by decide +kernel)
set_option maxRecDepth 1000000 in
set_option maxHeartbeats 8000000 in
theorem am_inF9 : ∀ w ∈ u_ws "SpinelessHall$Show" am_F9 4, w ∈ lw_tbl := am_pickW _ [(2, 28), (2, 30), (2, 32), (2, 34)] (by decide +kernel)
set_option maxRecDepth 1000000 in
set_option maxHeartbeats 8000000 in
theorem am_inF10 : ∀ w ∈ u_ws "SpinelessHall$Store" am_F10 9, w ∈ lw_tbl := am_pickW _ [(1, 211), (1, 213), (1, 215), (1, 217), (1, 219), (1, 221), (1, 223), (1, 225), (1, 227)] (by decide +kernel)
set_option maxRecDepth 1000000 in
set_option maxHeartbeats 8000000 in
theorem am_inF11 : ∀ w ∈ u_ws "SpinelessHall" am_F11 8, w ∈ lw_tbl := am_pickW _ [(2, 113), (2, 115), (2, 117), (2, 119), (2, 121), (2, 123), (2, 125), (2, 127)] (by decide +kernel)
set_option maxRecDepth 1000000 in
set_option maxHeartbeats 8000000 in
theorem am_inF12 : ∀ w ∈ u_ws "SpinelessHallModel" am_F12 76, w ∈ lw_tbl := am_pickW _ [(7, 2), (7, 4), (7, 6), (7, 8), (7, 10), (7, 12), (7, 14), (7, 16), (7, 18), (7, 20), (7, 22), (7, 24), (7, 26), (7, 28), (7, 30), (7, 32), (7, 34), (7, 36), (7, 38), (7, 40), (7, 42), (7, 44), (7, 46), (7, 48), (7, 50), (7, 52), (7, 54), (7, 56), (7, 58), (7, 60), (7, 62), (7, 64), (7, 66), (7, 68), (7, 70), (7, 72), (7, 74), (7, 76), (7, 78), (7, 80), (7, 82), (7, 84), (7, 86), (7, 88), (7, 90), (7, 92), (7, 94), (7, 96), (7, 98), (7, 100), (7, 102), (7, 104), (7, 106), (7, 108), (7, 110), (7, 112), (7, 114), (7, 116), (7, 118), (7, 120), (7, 122), (7, 124), (7, 126), (7, 128), (7, 130), (7, 132), (7, 134), (7, 136), (7, 138), (7, 140), (7, 142), (7, 144), (7, 146), (7, 148), (7, 150), (7, 152)] (by decide +kernel)
set_option maxRecDepth 1000000 in
set_option maxHeartbeats 8000000 in
theorem am_inX0 : ∀ w ∈ vx_atS "SpinelessHall" 86 (am_xn 1) am_nms, w ∈ lw_tbl := am_pickW _ [(1, 14), (3, 4), (3, 13), (3, 17), (3, 20), (3, 22), (3, 5), (3, 6), (1, 26), (1, 27), (3, 7), (3, 12), (3, 18), (3, 38), (2, 234), (3, 39), (2, 236), (3, 40), (2, 238), (3, 8), (3, 10), (3, 0), (3, 34), (3, 35), (3, 37), (3, 0), (3, 82), (3, 83), (3, 84), (3, 28), (2, 226), (3, 28), (3, 29), (3, 30), (3, 31), (2, 228), (3, 31), (3, 32), (3, 33), (3, 34), (2, 230), (3, 81), (3, 72), (3, 73), (3, 74), (3, 15), (3, 75), (3, 76), (3, 77), (3, 78), (3, 3), (3, 2), (3, 79)] (by decide +kernel)
set_option maxRecDepth 1000000 in
set_option maxHeartbeats 8000000 in
theorem am_inX1 : ∀ w ∈ vx_atS "SpinelessHall" 97 (am_xn 2) am_nms, w ∈ lw_tbl := am_pickW _ [(1, 14), (3, 4), (3, 13), (3, 17), (3, 20), (3, 22), (3, 5), (3, 6), (1, 26), (1, 27), (3, 7), (3, 12), (3, 18), (3, 38), (2, 234), (3, 39), (2, 236), (3, 40), (2, 238), (3, 8), (3, 10), (3, 0), (3, 34), (3, 35), (3, 37), (3, 0), (3, 25), (3, 26), (3, 27), (3, 28), (2, 226), (3, 28), (3, 29), (3, 30), (3, 31), (2, 228), (3, 31), (3, 32), (3, 33), (3, 34), (2, 230), (3, 24), (2, 223), (2, 224), (2, 231), (2, 232), (2, 233), (2, 235), (2, 237), (2, 239), (3, 3), (3, 2), (3, 1)] (by decide +kernel)
set_option maxRecDepth 1000000 in
set_option maxHeartbeats 8000000 in
theorem am_inX2 : ∀ w ∈ vx_atS "SpinelessHall" 224 (am_xn 0) am_nms, w ∈ lw_tbl := am_pickW _ [(1, 14), (3, 4), (3, 13), (3, 17), (3, 20), (3, 22), (3, 5), (3, 6), (1, 26), (1, 27), (3, 7), (3, 12), (3, 18), (3, 38), (2, 234), (3, 39), (2, 236), (3, 40), (2, 238), (3, 8), (3, 10), (3, 0), (3, 34), (3, 35), (3, 37), (3, 0), (3, 117), (3, 118), (3, 119), (3, 28), (2, 226), (3, 28), (3, 29), (3, 30), (3, 31), (2, 228), (3, 31), (3, 32), (3, 33), (3, 34), (2, 230), (3, 116), (3, 107), (3, 108), (3, 109), (3, 16), (3, 110), (3, 111), (3, 112), (3, 113), (3, 3), (3, 2), (3, 114)] (by decide +kernel)
