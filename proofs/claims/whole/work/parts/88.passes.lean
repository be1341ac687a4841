/-! ## 88 passes over trees: what they do -/
def dt_e : ct_T → ct_D
  | .inner _ e _ _ _ => e
  | .leaf => (0, 0, -1, -1)
def dt_a : ct_T → ct_T
  | .inner _ _ _ a _ => a
  | .leaf => .leaf
def dt_b : ct_T → ct_T
  | .inner _ _ _ _ (.inner _ _ _ b _) => b
  | _ => .leaf
def dt_c : ct_T → ct_T
  | .inner _ _ _ _ (.inner _ _ _ _ c) => c
  | _ => .leaf
abbrev dt_k (t : ct_T) : Int32 := (dt_e t).1
theorem dt_nd {t : ct_T} (hw : ct_wf t) (hn : ¬ t = .leaf) : t = ct_nd (dt_e t) (dt_a t) (dt_b t) (dt_c t) := by
  obtain ⟨e, a, b, c, rfl⟩ := ct_cs hw hn
  rfl
theorem dt_kl {t : ct_T} (h : ¬ dt_k t = 0) : ¬ t = .leaf := fun hc => h (by rw [hc]; rfl)
/-- the variables that a tree binds -/
def dt_B (t : ct_T) : List Int32 := ct_bl (ct_fl t)
theorem dt_B_nd {e : ct_D} {a b c : ct_T} : dt_B (ct_nd e a b c) = ct_ob e ++ (dt_B a ++ (dt_B b ++ dt_B c)) := by
  unfold dt_B
  rw [ct_fl_nd]
  show ct_ob e ++ ct_bl (ct_fl a ++ (ct_fl b ++ ct_fl c)) = _
  rw [ct_bl_app, ct_bl_app]
theorem dt_B_lf : dt_B .leaf = [] := rfl
def dt_nb (t : ct_T) : Nat := (dt_B t).length
/-- a copy with variables of its own, numbered from n -/
def dt_cp (n : Nat) (t : ct_T) : ct_T := ct_map (ct_fr n (dt_B t)) t
/-- copies of v wherever x stands -/
def dt_put (v : ct_T) (x : Int32) : ct_T → Nat → ct_T × Nat
  | .inner n0 e u a (.inner m e2 u2 b c), n =>
    if e.1 = 2 then (if e.2.2.1 = x then (dt_cp n v, n + dt_nb v) else (.inner n0 e u a (.inner m e2 u2 b c), n))
    else (.inner n0 e u (dt_put v x a n).1 (.inner m e2 u2 (dt_put v x b (dt_put v x a n).2).1 (dt_put v x c (dt_put v x b (dt_put v x a n).2).2).1), (dt_put v x c (dt_put v x b (dt_put v x a n).2).2).2)
  | t, n => (t, n)
theorem dt_put_nd {v : ct_T} {x : Int32} {e : ct_D} {a b c : ct_T} {n : Nat} : dt_put v x (ct_nd e a b c) n =
    if e.1 = 2 then (if e.2.2.1 = x then (dt_cp n v, n + dt_nb v) else (ct_nd e a b c, n))
    else (ct_nd e (dt_put v x a n).1 (dt_put v x b (dt_put v x a n).2).1 (dt_put v x c (dt_put v x b (dt_put v x a n).2).2).1, (dt_put v x c (dt_put v x b (dt_put v x a n).2).2).2) := rfl
theorem dt_put_lf {v : ct_T} {x : Int32} {n : Nat} : dt_put v x .leaf n = (.leaf, n) := rfl
/-- a node into the body of its first part -/
def dt_lift (e : ct_D) (a b c : ct_T) : ct_T := ct_nd (dt_e a) (dt_a a) (ct_nd e (dt_b a) b c) (dt_c a)
def dt_LET (x : Int32) (v b : ct_T) : ct_T := ct_nd (6, 0, x, -1) v b .leaf
def dt_lk (k : Int32) : Bool := decide (k = 6 ∨ k = 7 ∨ k = 8)
def dt_cnt (s : Int64) (x y : Int64) : Int64 := if s.toInt32 = 0 then x + y else if s.toInt32 = 1 then x - y else if s.toInt32 = 2 then x * y else if s.toInt32 = 3 then (if x < y then 1 else 0) else if x = y then 1 else 0
/-- a core small enough to be written where it is applied -/
def dt_sm (t : ct_T) : Bool := decide (dt_k t = 4) && (decide (ct_sz t ≤ 8) && !(ct_hg (ct_fl t)))
def dt_gn (e : ct_D) : Nat := e.2.1.toInt32.toNatClampNeg
def dt_ap (C : Nat → ct_T) (n : Nat) (e : ct_D) (a b c : ct_T) : Option (ct_T × Nat) :=
  if dt_k a = 4 then some (dt_LET (dt_e a).2.2.1 b (dt_a a), n)
  else if dt_lk (dt_k a) = true then some (dt_lift e a b c, n)
  else if dt_k a = 3 ∧ dt_sm (C (dt_gn (dt_e a))) = true then some (ct_nd e (dt_cp n (C (dt_gn (dt_e a)))) b c, n + dt_nb (C (dt_gn (dt_e a))))
  else none
def dt_at (k : Int32) : Bool := decide (k = 1 ∨ k = 2 ∨ k = 3)
def dt_le (n : Nat) (e : ct_D) (a b : ct_T) : Option (ct_T × Nat) :=
  if ct_cn e.2.2.1 (ct_fl b) = 0 then some (b, n)
  else if dt_at (dt_k a) = true ∨ (ct_cn e.2.2.1 (ct_fl b) = 1 ∧ ct_cw e.2.2.1 b = 0) ∨ (dt_k a = 4 ∧ ct_sz a ≤ 6) then some (dt_put a e.2.2.1 b n)
  else none
def dt_ma (n : Nat) (e : ct_D) (a b c : ct_T) : Option (ct_T × Nat) :=
  if dt_k a = 10 then some (b, n)
  else if dt_k a = 11 then some (dt_LET e.2.2.1 (dt_a a) (dt_LET e.2.2.2 (dt_b a) c), n)
  else if dt_lk (dt_k a) = true then some (dt_lift e a b c, n)
  else none
def dt_te (n : Nat) (e : ct_D) (a b c : ct_T) : Option (ct_T × Nat) :=
  if dt_k a = 1 then some (if (dt_e a).2.1 = 0 then c else b, n)
  else if dt_lk (dt_k a) = true then some (dt_lift e a b c, n)
  else none
def dt_pr (n : Nat) (e : ct_D) (a b : ct_T) : Option (ct_T × Nat) :=
  if dt_k a = 1 ∧ dt_k b = 1 then some (ct_nd (1, dt_cnt e.2.1 (dt_e a).2.1 (dt_e b).2.1, -1, -1) .leaf .leaf .leaf, n) else none
def dt_si (C : Nat → ct_T) (n : Nat) (e : ct_D) (a b c : ct_T) : Option (ct_T × Nat) :=
  if e.1 = 5 then dt_ap C n e a b c else if e.1 = 6 then dt_le n e a b else if e.1 = 12 then dt_ma n e a b c else if e.1 = 13 then dt_te n e a b c else if e.1 = 9 then dt_pr n e a b else none
def dt_fi (n : Nat) (e : ct_D) (a b : ct_T) : Option (ct_T × Nat) :=
  if e.1 = 6 ∧ (dt_k b = 12 ∨ dt_k b = 13) ∧ ct_cn e.2.2.1 (ct_fl (dt_a b)) = 0 then
    (if 0 < ct_cn e.2.2.1 (ct_fl (dt_b b)) then
      (if 0 < ct_cn e.2.2.1 (ct_fl (dt_c b)) then none else some (ct_nd (dt_e b) (dt_a b) (ct_nd e a (dt_b b) .leaf) (dt_c b), n))
    else (if 0 < ct_cn e.2.2.1 (ct_fl (dt_c b)) then some (ct_nd (dt_e b) (dt_a b) (dt_b b) (ct_nd e a (dt_c b) .leaf), n) else none))
  else none
def dt_fo (n : Nat) (e : ct_D) (a b c : ct_T) : Option (ct_T × Nat) :=
  if e.1 = 4 ∧ dt_k a = 6 ∧ ct_cn e.2.2.1 (ct_fl (dt_a a)) = 0 ∧ ¬ dt_at (dt_k (dt_a a)) = true ∧ ¬ dt_k (dt_a a) = 4 then some (dt_lift e a b c, n) else none
def dt_ry (n : Nat) (e : ct_D) (a b : ct_T) : Option (ct_T × Nat) :=
  if e.1 = 6 ∧ dt_k b = 4 ∧ (dt_k a = 1 ∨ dt_k a = 2 ∨ dt_k a = 4) then some (ct_nd (dt_e b) (ct_nd e a (dt_a b) .leaf) (dt_b b) (dt_c b), n) else none
def dt_sr (nq : ct_T → Nat → Bool) (n : Nat) (e : ct_D) (a b : ct_T) : Option (ct_T × Nat) :=
  if e.1 = 6 ∧ nq b e.2.2.1.toNatClampNeg = true then some (ct_nd (8, 0, e.2.2.1, -1) a b .leaf, n) else none
def dt_rf (p : Int32) (f g : Int64) : List (Int32 × Int32 × Int32 × Int32) → Option Int32
  | [] => none
  | q :: r => if q.1 = p ∧ q.2.1.toInt64 = f ∧ q.2.2.1.toInt64 = g then some q.2.2.2 else dt_rf p f g r
def dt_ru (p : Int32) (R : List (Int32 × Int32 × Int32 × Int32)) (n : Nat) (e : ct_D) (a b : ct_T) : Option (ct_T × Nat) :=
  if e.1 = 5 ∧ dt_k a = 3 ∧ dt_k b = 5 ∧ dt_k (dt_a b) = 3 then
    (match dt_rf p (dt_e a).2.1 (dt_e (dt_a b)).2.1 R with
    | some r => some (ct_nd e (ct_nd (3, r.toInt64, -1, -1) .leaf .leaf .leaf) (dt_b b) .leaf, n)
    | none => none)
  else none
/-- what a pass makes of a node whose parts are done -/
def dt_dn (C : Nat → ct_T) (R : List (Int32 × Int32 × Int32 × Int32)) (nq : ct_T → Nat → Bool) (p : Nat) (n : Nat) (e : ct_D) (a b c : ct_T) : Option (ct_T × Nat) :=
  if p = 0 then dt_si C n e a b c else if p = 1 then dt_fi n e a b else if p = 2 then dt_fo n e a b c else if p = 3 then dt_ry n e a b else if p = 4 then dt_sr nq n e a b else dt_ru (Int32.ofNat (p - 5)) R n e a b
abbrev dt_Dn : Type := Nat → ct_D → ct_T → ct_T → ct_T → Option (ct_T × Nat)
/-- a node done: too large, or what it is then, the next variable, how many were changed -/
def dt_fn (D : dt_Dn) (n : Nat) (e : ct_D) (a b c : ct_T) (k : Nat) : Option (ct_T × Nat × Nat) :=
  match D n e a b c with
  | none => if 1 + (ct_sz a + (ct_sz b + ct_sz c)) ≤ 150 then some (ct_nd e a b c, n, k) else none
  | some r => if ct_sz r.1 ≤ 150 then some (r.1, r.2, k + 1) else none
/-- a pass over a tree: from the right (the class) or from the left (the model) -/
def dt_pa (D : dt_Dn) (o : Bool) : ct_T → Nat → Option (ct_T × Nat × Nat)
  | .inner _ e _ a (.inner _ _ _ b c), n => match o with
    | true => (dt_pa D true c n).bind fun rc => (dt_pa D true b rc.2.1).bind fun rb => (dt_pa D true a rb.2.1).bind fun ra => dt_fn D ra.2.1 e ra.1 rb.1 rc.1 (rc.2.2 + rb.2.2 + ra.2.2)
    | false => (dt_pa D false a n).bind fun ra => (dt_pa D false b ra.2.1).bind fun rb => (dt_pa D false c rb.2.1).bind fun rc => dt_fn D rc.2.1 e ra.1 rb.1 rc.1 (ra.2.2 + rb.2.2 + rc.2.2)
  | _, n => some (.leaf, n, 0)
theorem dt_pa_t {D : dt_Dn} {e : ct_D} {a b c : ct_T} {n : Nat} : dt_pa D true (ct_nd e a b c) n = (dt_pa D true c n).bind fun rc => (dt_pa D true b rc.2.1).bind fun rb => (dt_pa D true a rb.2.1).bind fun ra => dt_fn D ra.2.1 e ra.1 rb.1 rc.1 (rc.2.2 + rb.2.2 + ra.2.2) := rfl
theorem dt_pa_f {D : dt_Dn} {e : ct_D} {a b c : ct_T} {n : Nat} : dt_pa D false (ct_nd e a b c) n = (dt_pa D false a n).bind fun ra => (dt_pa D false b ra.2.1).bind fun rb => (dt_pa D false c rb.2.1).bind fun rc => dt_fn D rc.2.1 e ra.1 rb.1 rc.1 (ra.2.2 + rb.2.2 + rc.2.2) := rfl
theorem dt_pa_lf {D : dt_Dn} {o : Bool} {n : Nat} : dt_pa D o .leaf n = some (.leaf, n, 0) := by cases o <;> rfl
/-- counting -/
def dt_ct (z : Int32) (t : ct_T) : Nat := (dt_B t).count z
def dt_oc (z : Int32) (e : ct_D) : Nat := (ct_ob e).count z
theorem dt_ct_nd {z : Int32} {e : ct_D} {a b c : ct_T} : dt_ct z (ct_nd e a b c) = dt_oc z e + (dt_ct z a + (dt_ct z b + dt_ct z c)) := by
  unfold dt_ct dt_oc
  rw [dt_B_nd, List.count_append, List.count_append, List.count_append]
theorem dt_ct_lf {z : Int32} : dt_ct z .leaf = 0 := rfl
theorem dt_ct_in {z : Int32} {t : ct_T} : z ∈ dt_B t ↔ 0 < dt_ct z t := List.count_pos_iff.symm
theorem dt_nodup {t : ct_T} : (dt_B t).Nodup ↔ ∀ z, dt_ct z t ≤ 1 := List.nodup_iff_count
theorem dt_nb_nd {e : ct_D} {a b c : ct_T} : dt_nb (ct_nd e a b c) = (ct_ob e).length + (dt_nb a + (dt_nb b + dt_nb c)) := by
  unfold dt_nb
  rw [dt_B_nd, List.length_append, List.length_append, List.length_append]
