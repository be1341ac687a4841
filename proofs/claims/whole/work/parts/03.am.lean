/-! ## 03 AN ABSTRACT MACHINE for this system's bytecode: what the classes of this claim do, as a function of the things made so far (numbered as they were made), the locals and the stack. References are numbers of things; 1000000 is the script, 1000001 the row PARTS. Its soundness against the machine: parts 04 and on. -/
abbrev am_E : Type := (Nat × vp_A) ⊕ (Nat × List Value)
abbrev am_L : Type := List (Option Value)
abbrev am_M : Type := List am_E × Nat × Nat
abbrev am_O : Type := Option Value ⊕ Nat
/-- a row of a method's table: the kind, the instruction, its length, numbers -/
abbrev am_I : Type := Nat × Instr × Nat × List Nat
abbrev am_B : Type := List (Nat × am_I)
abbrev am_Xs : Type := Nat → Option (Nat × (Nat → Int32))
def am_EX : Nat := 1000000
def am_at : am_B → Nat → Option am_I
  | [], _ => none
  | e :: t, pc => cond (Nat.beq e.1 pc) (some e.2) (am_at t pc)
def am_mem (c : Nat) : List Nat → Bool
  | [] => false
  | a :: t => cond (Nat.beq a c) true (am_mem c t)
def am_kill (L : am_L) : Nat → am_L
  | 0 => L
  | k + 1 => match L[k]? with
    | some (some v) => if v.category = 2 then L.set k none else L
    | _ => L
def am_set1 (L : am_L) (n : Nat) (v : Value) : am_L := (am_kill L n).set n (some v)
def am_set2 (L : am_L) (n : Nat) (v : Value) : am_L := ((am_kill L n).set n (some v)).set (n + 1) none
def am_ldI (L : am_L) (n : Nat) (st : List Value) : Option (am_L × List Value) := match L[n]? with
  | some (some (.int x)) => some (L, .int x :: st)
  | _ => none
def am_ldJ (L : am_L) (n : Nat) (st : List Value) : Option (am_L × List Value) := match L[n]? with
  | some (some (.long x)) => some (L, .long x :: st)
  | _ => none
def am_ldA (L : am_L) (n : Nat) (st : List Value) : Option (am_L × List Value) := match L[n]? with
  | some (some (.ref x)) => some (L, .ref x :: st)
  | _ => none
def am_stI (L : am_L) (n : Nat) (st : List Value) : Option (am_L × List Value) := match st with
  | .int x :: st => if n < L.length then some (am_set1 L n (.int x), st) else none
  | _ => none
def am_stA (L : am_L) (n : Nat) (st : List Value) : Option (am_L × List Value) := match st with
  | .ref x :: st => if n < L.length then some (am_set1 L n (.ref x), st) else none
  | _ => none
def am_stJ (L : am_L) (n : Nat) (st : List Value) : Option (am_L × List Value) := match st with
  | .long x :: st => if n + 1 < L.length then some (am_set2 L n (.long x), st) else none
  | _ => none
/-- an index that lies in a row -/
abbrev am_in (i : Int32) (n : Nat) : Prop := ¬ (i < 0 ∨ n ≤ i.toNatClampNeg)
/-- a row of ints: one that was made, or one of the two from outside -/
def am_arI (X : am_Xs) (h : List am_E) (a : Nat) : Option (Nat × (Nat → Int32)) := match h[a]? with
  | some (.inl (0, n, .inl f)) => some (n, f)
  | none => X a
  | _ => none
def am_bin (st : List Value) (f : Int32 → Int32 → Int32) (L : am_L) : Option (am_L × List Value) := match st with
  | .int y :: .int x :: st => some (L, .int (f x y) :: st)
  | _ => none
def am_binJ (st : List Value) (f : Int64 → Int64 → Int64) (L : am_L) : Option (am_L × List Value) := match st with
  | .long y :: .long x :: st => some (L, .long (f x y) :: st)
  | _ => none
/-- instructions that change the locals and the stack alone -/
def am_s (X : am_Xs) (ex : List Nat) (L : am_L) (st : List Value) (h : List am_E) : Instr → Option (am_L × List Value)
  | .iconst n => some (L, .int (Int32.ofInt n) :: st)
  | .bipush n => some (L, .int (Int8.ofInt n).toInt32 :: st)
  | .sipush n => some (L, .int (Int16.ofInt n).toInt32 :: st)
  | .lconst n => some (L, .long (Int64.ofNat (n : Nat)) :: st)
  | .ldc _ => match ex with
    | [k] => some (L, .int (Int32.ofNat k) :: st)
    | _ => none
  | .ldc2_w _ => match ex with
    | [k] => some (L, .long (Int64.ofNat k) :: st)
    | _ => none
  | .iload n => am_ldI L n st
  | .iload_n n => am_ldI L n st
  | .lload n => am_ldJ L n st
  | .lload_n n => am_ldJ L n st
  | .aload n => am_ldA L n st
  | .aload_n n => am_ldA L n st
  | .istore n => am_stI L n st
  | .istore_n n => am_stI L n st
  | .lstore n => am_stJ L n st
  | .lstore_n n => am_stJ L n st
  | .astore n => am_stA L n st
  | .astore_n n => am_stA L n st
  | .iinc n k => match L[n]? with
    | some (some (.int x)) => some (am_set1 L n (.int (x + Int32.ofInt k)), st)
    | _ => none
  | .dup => match st with
    | v :: st => if v.category = 1 then some (L, v :: v :: st) else none
    | _ => none
  | .dup2 => match st with
    | v :: w :: st => if v.category = 1 ∧ w.category = 1 then some (L, v :: w :: v :: w :: st) else none
    | _ => none
  | .pop => match st with
    | v :: st => if v.category = 1 then some (L, st) else none
    | _ => none
  | .iadd => am_bin st (fun x y => x + y) L
  | .isub => am_bin st (fun x y => x - y) L
  | .imul => am_bin st (fun x y => x * y) L
  | .iand => am_bin st (fun x y => x &&& y) L
  | .ior => am_bin st (fun x y => x ||| y) L
  | .ishl => am_bin st (fun x y => x <<< (y &&& 31)) L
  | .ishr => am_bin st (fun x y => x >>> (y &&& 31)) L
  | .idiv => match st with
    | .int y :: .int x :: st => if y = 0 then none else some (L, .int (x / y) :: st)
    | _ => none
  | .irem => match st with
    | .int y :: .int x :: st => if y = 0 then none else some (L, .int (x - x / y * y) :: st)
    | _ => none
  | .ladd => am_binJ st (fun x y => x + y) L
  | .lsub => am_binJ st (fun x y => x - y) L
  | .lmul => am_binJ st (fun x y => x * y) L
  | .land => am_binJ st (fun x y => x &&& y) L
  | .lor => am_binJ st (fun x y => x ||| y) L
  | .lshl => match st with
    | .int y :: .long x :: st => some (L, .long (x <<< (y.toInt64 &&& 63)) :: st)
    | _ => none
  | .lshr => match st with
    | .int y :: .long x :: st => some (L, .long (x >>> (y.toInt64 &&& 63)) :: st)
    | _ => none
  | .i2l => match st with
    | .int x :: st => some (L, .long x.toInt64 :: st)
    | _ => none
  | .l2i => match st with
    | .long x :: st => some (L, .int x.toInt32 :: st)
    | _ => none
  | .lcmp => match st with
    | .long y :: .long x :: st => some (L, .int (lg_cmp x y) :: st)
    | _ => none
  | .getfield _ => match ex, st with
    | k :: cis, .ref a :: st => match h[a]? with
      | some (.inr (c, fs)) => match am_mem c cis, fs[k]? with
        | true, some v => some (L, v :: st)
        | _, _ => none
      | _ => none
    | _, _ => none
  | .getstatic _ => some (L, .ref (am_EX + 1) :: st)
  | .arraylength => match st with
    | .ref a :: st => match h[a]? with
      | some (.inl (0, n, _)) => some (L, .int (Int32.ofNat n) :: st)
      | some (.inl (1, n, _)) => some (L, .int (Int32.ofNat n) :: st)
      | some (.inl (2, n, _)) => some (L, .int (Int32.ofNat n) :: st)
      | none => match X a with
        | some (n, _) => some (L, .int (Int32.ofNat n) :: st)
        | none => none
      | _ => none
    | _ => none
  | .iaload => match st with
    | .int i :: .ref a :: st => match am_arI X h a with
      | some (n, f) => if am_in i n then some (L, .int (f i.toNatClampNeg) :: st) else none
      | none => none
    | _ => none
  | .laload => match st with
    | .int i :: .ref a :: st => match h[a]? with
      | some (.inl (1, n, .inr (.inl f))) => if am_in i n then some (L, .long (f i.toNatClampNeg) :: st) else none
      | _ => none
    | _ => none
  | .baload => match st with
    | .int i :: .ref a :: st => match h[a]? with
      | some (.inl (2, n, .inl f)) => if am_in i n then some (L, .int (f i.toNatClampNeg) :: st) else none
      | _ => none
    | _ => none
  | _ => none
/-- instructions that write -/
def am_w (ex : List Nat) (st : List Value) (h : List am_E) : Instr → Option (List Value × List am_E)
  | .iastore => match st with
    | .int x :: .int i :: .ref a :: st => match h[a]? with
      | some (.inl (0, n, .inl f)) => if am_in i n then some (st, h.set a (.inl (0, n, .inl (upd f i.toNatClampNeg x)))) else none
      | _ => none
    | _ => none
  | .lastore => match st with
    | .long x :: .int i :: .ref a :: st => match h[a]? with
      | some (.inl (1, n, .inr (.inl f))) => if am_in i n then some (st, h.set a (.inl (1, n, .inr (.inl (vp_updL f i.toNatClampNeg x))))) else none
      | _ => none
    | _ => none
  | .bastore => match st with
    | .int x :: .int i :: .ref a :: st => match h[a]? with
      | some (.inl (2, n, .inl f)) => if am_in i n then some (st, h.set a (.inl (2, n, .inl (upd f i.toNatClampNeg (vp_nar .boolean x))))) else none
      | _ => none
    | _ => none
  | .putfield _ => match ex, st with
    | k :: ty :: cis, v :: .ref a :: st => match h[a]? with
      | some (.inr (c, fs)) => match am_mem c cis, decide (k < fs.length), ty, v with
        | true, true, 0, .int x => some (st, h.set a (.inr (c, fs.set k (.int x))))
        | true, true, 1, .long x => some (st, h.set a (.inr (c, fs.set k (.long x))))
        | true, true, 2, .int x => if x = 0 ∨ x = 1 then some (st, h.set a (.inr (c, fs.set k (.int x)))) else none
        | true, true, 3, .ref x => some (st, h.set a (.inr (c, fs.set k (.ref x))))
        | _, _, _, _ => none
      | _ => none
    | _, _ => none
  | _ => none
def am_ic (c : Jvm.ClassFile.Cond) (x y : Int32) : Bool := match c with
  | .eq => decide (x = y)
  | .ne => decide (¬ x = y)
  | .lt => decide (x < y)
  | .ge => decide (y ≤ x)
  | .gt => decide (y < x)
  | .le => decide (x ≤ y)
def am_look : List (Int × Int) → Int → List Nat → Nat → Nat
  | (k, _) :: r, x, t :: ts, d => if x = k then t else am_look r x ts d
  | _, _, _, d => d
/-- where a jump goes: none is the next instruction -/
def am_j (ex : List Nat) (st : List Value) (nx : Nat) : Instr → Option (List Value × Nat)
  | .goto _ => match ex with
    | [t] => some (st, t)
    | _ => none
  | .ifCond c _ => match ex, st with
    | [t], .int x :: st => some (st, if am_ic c x 0 = true then t else nx)
    | _, _ => none
  | .if_icmp c _ => match ex, st with
    | [t], .int y :: .int x :: st => some (st, if am_ic c x y = true then t else nx)
    | _, _ => none
  | .tableswitch _ lo hi _ => match ex, st with
    | d :: ts, .int x :: st => if x.toInt < lo ∨ hi < x.toInt then some (st, d) else match ts[(x.toInt - lo).toNat]? with
      | some t => some (st, t)
      | none => none
    | _, _ => none
  | .lookupswitch _ ps => match ex, st with
    | d :: ts, .int x :: st => some (st, am_look ps.toList x.toInt ts d)
    | _, _ => none
  | _ => none
def am_scV (n : Nat) : Value → Bool
  | .ref i => Nat.blt i n || Nat.ble am_EX i
  | _ => true
def am_scL (n : Nat) (L : am_L) : Bool := L.all fun v => match v with
  | some v => am_scV n v
  | none => true
def am_scE (n : Nat) : am_E → Bool
  | .inr (_, fs) => fs.all (am_scV n)
  | .inl _ => true
/-- nothing names a thing that is not there -/
def am_sc (n : Nat) (L : am_L) (st : List Value) (h : List am_E) : Bool := am_scL n L && (st.all (am_scV n) && h.all (am_scE n))
/-- what a new object of a class holds -/
abbrev am_Df : Type := Nat → List Value
/-- the fields' numbers of a new row -/
def am_row (t : Nat) (n : Nat) : am_E := match t with
  | 0 => .inl (0, n, .inl (fun _ => 0))
  | 1 => .inl (1, n, .inr (.inl (fun _ => 0)))
  | _ => .inl (2, n, .inl (fun _ => 0))
/-- making: the things, cells, slots -/
def am_n (df : am_Df) (ex : List Nat) (L : am_L) (st : List Value) (u : am_M) : Instr → Option (List Value × am_M)
  | .new _ => match ex with
    | [c, n] => if am_sc u.1.length L st u.1 = true ∧ u.1.length < 1000 then some (.ref u.1.length :: st, (u.1 ++ [.inr (c, df c)], u.2.1 + 1, u.2.2 + n)) else none
    | _ => none
  | .newarray _ => match ex, st with
    | [t], .int n :: st => if am_sc u.1.length L st u.1 = true ∧ u.1.length < 1000 ∧ ¬ n < 0 ∧ n.toNatClampNeg ≤ 65536 then some (.ref u.1.length :: st, (u.1 ++ [am_row t n.toNatClampNeg], u.2.1 + 1, u.2.2 + n.toNatClampNeg)) else none
    | _, _ => none
  | _ => none
/-- a method: its class, table, locals' number, handlers (from, to, handler, exception) -/
abbrev am_T : Type := Nat → Option (am_B × Nat × List (Nat × Nat × Nat × Nat))
def am_catch : List (Nat × Nat × Nat × Nat) → Nat → Nat → Option Nat
  | [], _, _ => none
  | r :: t, pc, E => cond (Nat.ble r.1 pc && (Nat.blt pc r.2.1 && Nat.beq r.2.2.2 E)) (some r.2.2.1) (am_catch t pc E)
/-- the locals at a method's entry -/
def am_sl : List Value → am_L
  | [] => []
  | v :: vs => if v.category = 2 then some v :: none :: am_sl vs else some v :: am_sl vs
def am_en (n : Nat) (vs : List Value) : am_L := am_sl vs ++ List.replicate (n - (am_sl vs).length) none
/-- the receiver is of one of the classes -/
def am_rc (as : List Value) (h : List am_E) (cis : List Nat) : Bool := match as with
  | .ref a :: _ => match h[a]? with
    | some (.inr (c, _)) => am_mem c cis
    | _ => false
  | _ => false
/-- the local that a handler puts its exception into -/
def am_hs : Option am_I → Option (Nat × Nat)
  | some (8, .astore_n k, 1, _) => some (k, 1)
  | some (8, .astore k, 2, _) => some (k, 2)
  | _ => none
/-- the machine: fuel, depth, method, counter, locals, stack, things -/
def am_ev (X : am_Xs) (df : am_Df) (T : am_T) : Nat → Nat → Nat → Nat → am_L → List Value → am_M → Option (am_O × am_M)
  | 0, _, _, _, _, _, _ => none
  | f + 1, d, y, pc, L, st, u => match T y with
    | none => none
    | some (B, _, hh) => match am_at B pc with
      | some (0, i, n, ex) => match am_s X ex L st u.1 i with
        | some r => am_ev X df T f d y (pc + n) r.1 r.2 u
        | none => none
      | some (1, i, n, ex) => match am_w ex st u.1 i with
        | some r => am_ev X df T f d y (pc + n) L r.1 (r.2, u.2)
        | none => none
      | some (2, i, n, ex) => match am_j ex st (pc + n) i with
        | some r => am_ev X df T f d y r.2 L r.1 u
        | none => none
      | some (3, i, n, ex) => match am_n df ex L st u i with
        | some r => am_ev X df T f d y (pc + n) L r.1 r.2
        | none => none
      | some (4, _, _, kd :: y2 :: k :: cis) => match d, T y2 with
        | d2 + 1, some (_, nL, _) => match Nat.ble k st.length && Nat.ble (am_sl (st.take k).reverse).length nL && (decide (((st.drop k).map Value.category).sum ≤ 8) && (cond (Nat.beq kd 0) true (am_rc (st.take k).reverse u.1 cis))) with
          | true => match am_ev X df T f d2 y2 0 (am_en nL (st.take k).reverse) [] u with
            | some (.inl v, u2) => cond (Nat.beq u2.1.length u.1.length || am_sc u.1.length L (st.drop k) []) (am_ev X df T f d y (pc + 3) L (v.toList ++ st.drop k) u2) none
            | some (.inr E, u2) => match am_catch hh pc E with
              | none => some (.inr E, u2)
              | some t => match am_hs (am_at B t) with
                | some (j, n) => cond ((Nat.beq u2.1.length u.1.length || am_sc u.1.length L [] []) && Nat.blt j L.length) (am_ev X df T f d y (t + n) ((am_kill L j).set j none) [] u2) none
                | none => none
            | none => none
          | false => none
        | _, _ => none
      | some (5, i, _, ex) => match i, st, ex with
        | .ireturn, [.int v], [0] => some (.inl (some (.int v)), u)
        | .ireturn, [.int v], [1] => if v = 0 ∨ v = 1 then some (.inl (some (.int v)), u) else none
        | .lreturn, [.long v], _ => some (.inl (some (.long v)), u)
        | .return_, [], _ => some (.inl none, u)
        | _, _, _ => none
      | some (6, _, _, [E]) => match hh with
        | [] => if (st.map Value.category).sum ≤ 8 then some (.inr E, (u.1, u.2.1 + 1, u.2.2 + 6)) else none
        | _ => none
      | some (7, _, _, _) => match st with
        | .ref _ :: st => if (st.map Value.category).sum ≤ 8 then am_ev X df T f d y (pc + 3) L st u else none
        | _ => none
      | _ => none
