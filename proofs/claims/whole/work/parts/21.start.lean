/-! ## 21 the law's start: the things that the constructors make; the claim out of the law's loop over flat memory -/
def cm_S0 : cm_S := (fun i k => cond (Nat.beq i 57) (cond (Nat.beq k 6) (-1) 0) (cond (Nat.beq i 64) (cond (Nat.beq k 4) 9 0) (cond (Nat.beq i 83) (cond (Nat.beq k 40) (-1) 0) 0)), fun _ _ => 0)
def cm_M3 : List am_E := cm_h cm_S0 0 (cm_T.take 83) ++ [.inr (12, am_df 12)]
set_option maxRecDepth 1000000 in
set_option maxHeartbeats 40000000 in
theorem cm_c1 {X : am_Xs} : am_ev X am_df am_TT 400 999 128 0 (am_en 1 [.ref 0]) [] ([.inr (11, am_df 11)], 1, 8) = some (.inl none, (cm_h cm_S0 0 (cm_T.take 83), 83, 156975)) := by
  rfl
set_option maxRecDepth 1000000 in
set_option maxHeartbeats 40000000 in
theorem cm_c2 {X : am_Xs} : am_ev X am_df am_TT 400 999 171 0 (am_en 1 [.ref 83]) [] (cm_M3, 84, 157051) = some (.inl none, (cm_h cm_S0 0 (cm_T.take 132), 132, 422451)) := by
  rfl
theorem cm_cl {X : am_Xs} {df : am_Df} {T : am_T} {f d2 y pc kd y2 k n : Nat} {i : Instr} {cis : List Nat} {L : am_L} {st : List Value} {u u2 : am_M} {B B2 : am_B} {nB nL : Nat} {hh hh2 : List (Nat × Nat × Nat × Nat)} {v : Option Value} (hT : T y = some (B, nB, hh)) (hB : am_at B pc = some (4, i, n, kd :: y2 :: k :: cis)) (hT2 : T y2 = some (B2, nL, hh2))
    (hc : (Nat.ble k st.length && Nat.ble (am_sl (st.take k).reverse).length nL && (decide (((st.drop k).map Value.category).sum ≤ 8) && (cond (Nat.beq kd 0) true (am_rc (st.take k).reverse u.1 cis)))) = true) (he : am_ev X df T f d2 y2 0 (am_en nL (st.take k).reverse) [] u = some (.inl v, u2)) (hs : (Nat.beq u2.1.length u.1.length || am_sc u.1.length L (st.drop k) []) = true) :
    am_ev X df T (f + 1) (d2 + 1) y pc L st u = am_ev X df T f (d2 + 1) y (pc + 3) L (v.toList ++ st.drop k) u2 := by
  rw [am_ev_s]
  simp only [hT, hB, hT2]
  rw [hc]
  simp only []
  rw [he]
  simp only []
  rw [hs]
  rfl
def cm_L0 : am_L := am_en 8 [.ref 1000000]
def cm_L1 (j : Int32) (a b : Option Value) : am_L := [some (.ref 1000000), some (.ref 0), some (.ref 83), some (.ref 132), some (.int j), a, b, none]
set_option maxRecDepth 1000000 in
set_option maxHeartbeats 40000000 in
theorem cm_e1 {X : am_Xs} {g : Nat} : am_ev X am_df am_TT (g + 2) 1000 300 0 cm_L0 [] ([], 0, 0) = am_ev X am_df am_TT g 1000 300 4 cm_L0 [.ref 0, .ref 0] ([.inr (11, am_df 11)], 1, 8) := rfl
set_option maxRecDepth 1000000 in
set_option maxHeartbeats 40000000 in
theorem cm_e2 {X : am_Xs} {g : Nat} : am_ev X am_df am_TT (g + 400 + 1) 1000 300 4 cm_L0 [.ref 0, .ref 0] ([.inr (11, am_df 11)], 1, 8) = am_ev X am_df am_TT (g + 400) 1000 300 7 cm_L0 [.ref 0] (cm_h cm_S0 0 (cm_T.take 83), 83, 156975) :=
  cm_cl (d2 := 999) (v := none) (st := [.ref 0, .ref 0]) am_T300 (show am_at am_B300 4 = some (4, .invokespecial 101, 3, [2, 128, 1, 11]) from rfl) (show am_TT 128 = some (am_B128, 1, []) from rfl) rfl (am_fuel _ _ _ _ _ _ _ _ _ _ _ cm_c1 _ (by omega)) rfl
set_option maxRecDepth 1000000 in
set_option maxHeartbeats 40000000 in
theorem cm_e3 {X : am_Xs} {g : Nat} : am_ev X am_df am_TT (g + 3) 1000 300 7 cm_L0 [.ref 0] (cm_h cm_S0 0 (cm_T.take 83), 83, 156975) = am_ev X am_df am_TT g 1000 300 12 (cm_L0.set 1 (some (.ref 0))) [.ref 83, .ref 83] (cm_M3, 84, 157051) := rfl
set_option maxRecDepth 1000000 in
set_option maxHeartbeats 40000000 in
theorem cm_e5 {X : am_Xs} {g : Nat} : am_ev X am_df am_TT (g + 400 + 1) 1000 300 12 (cm_L0.set 1 (some (.ref 0))) [.ref 83, .ref 83] (cm_M3, 84, 157051) = am_ev X am_df am_TT (g + 400) 1000 300 15 (cm_L0.set 1 (some (.ref 0))) [.ref 83] (cm_h cm_S0 0 (cm_T.take 132), 132, 422451) :=
  cm_cl (d2 := 999) (v := none) (st := [.ref 83, .ref 83]) am_T300 (show am_at am_B300 12 = some (4, .invokespecial 104, 3, [2, 171, 1, 12]) from rfl) (show am_TT 171 = some (am_B171, 1, []) from rfl) rfl (am_fuel _ _ _ _ _ _ _ _ _ _ _ cm_c2 _ (by omega)) rfl
set_option maxRecDepth 1000000 in
set_option maxHeartbeats 40000000 in
theorem cm_e6 {X : am_Xs} {g : Nat} : am_ev X am_df am_TT (g + 6) 1000 300 15 (cm_L0.set 1 (some (.ref 0))) [.ref 83] (cm_h cm_S0 0 (cm_T.take 132), 132, 422451) = am_ev X am_df am_TT g 1000 300 23 (cm_L1 0 none none) [] (cm_h cm_S0 0 cm_T, 133, 422452) := rfl
theorem cm_start {X : am_Xs} {f : Nat} {r : am_O × am_M} (h : am_ev X am_df am_TT f 1000 300 23 (cm_L1 0 none none) [] (cm_h cm_S0 0 cm_T, 133, 422452) = some r) : ∃ g, am_ev X am_df am_TT g 1000 300 0 cm_L0 [] ([], 0, 0) = some r := by
  have h6 : am_ev X am_df am_TT (f + 400 + 6) 1000 300 15 (cm_L0.set 1 (some (.ref 0))) [.ref 83] (cm_h cm_S0 0 (cm_T.take 132), 132, 422451) = some r := cm_e6.trans (am_fuel _ _ _ _ _ _ _ _ _ _ _ h _ (by omega))
  have h5 : am_ev X am_df am_TT (f + 6 + 400 + 1) 1000 300 12 (cm_L0.set 1 (some (.ref 0))) [.ref 83, .ref 83] (cm_M3, 84, 157051) = some r := cm_e5.trans (am_fuel _ _ _ _ _ _ _ _ _ _ _ h6 _ (by omega))
  have h3 := cm_e3.trans h5
  have h2 : am_ev X am_df am_TT (f + 10 + 400 + 1) 1000 300 4 cm_L0 [.ref 0, .ref 0] ([.inr (11, am_df 11)], 1, 8) = some r := cm_e2.trans (am_fuel _ _ _ _ _ _ _ _ _ _ _ h3 _ (by omega))
  exact ⟨_, cm_e1.trans h2⟩
/-- the claim's walk out of the law's loop -/
theorem cm_whole {p : Program} {e : Env} {s : State} {m : MethodId} {below : List Frame} {meth : Method} {c : Code} (l : Launch) (hflags : l.flags = flags0) {b L : Nat} {xs : Nat → Int32} (C0 : lw_At p s m meth c b L xs)
    (h : cm_At (am_XX L xs) 1000 300 23 (cm_L1 0 none none) [] cm_S0 (fun r _ k => r = .inl (some (.int 1)) ∧ k ≤ 600000)) :
    W p l e room_1 s m #[Value.ref b] below meth c s.heap [] 0 0 (lw_Z below #[Value.ref b] s) (entryFrame m ([Value.ref b] : List Value).toArray 8) := by
  obtain ⟨f, r, S2, k, h1, rfl, hk⟩ := h
  obtain ⟨g, hg⟩ := cm_start (h1 133 422452)
  exact am_whole l hflags C0 (d := 1000) (Nat.le_refl _) hg (by show 133 + k ≤ 601024; omega) (by show 422452 + 6 * k ≤ 7293034; omega)
