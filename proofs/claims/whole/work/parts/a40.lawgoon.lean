/-! ## a40 the law's case of goOn -/
theorem dw_both2 {V : Nat → ct_T} {A0 S0 A1 : cm_S} {st lim wc sh dd b5 o : Nat} (hrn : dw_RN A0 S0 V st lim wc sh dd b5) (hlim : lim ≤ 3999) (hst : st ≤ lim) (hwc : wc ≤ sh) (hsh : sh ≤ 20) (hms : 3 * (lim - st) + b5 + 2 * (20 - sh) < 20000) (c1 : ∀ (L : Nat) (xs : Nat → Int32) (d : Nat) (K : cm_K) (q1 : Int32) (t : Nat), t + 20000 < 1000000 → K (.inl (some (.int (Int32.ofNat o)))) A1 0 → cm_At (am_XX L xs) (d + 7) 59 18 [some (.ref 57), some (.int q1), some (.int (Int32.ofNat t))] [] A0 K) (ho : o ≤ 5) : ∃ (A2 S2 : cm_S) (st1 wc1 sh1 : Nat), cm_h A1 0 cm_T = cm_h A2 0 cm_T ∧ (∀ (L : Nat) (xs : Nat → Int32) (d : Nat) (K : cm_K) (q1 : Int32), K (.inl (some (.int (Int32.ofNat o)))) S2 0 → cm_At (am_XX L xs) (d + 4) 263 15 [some (.ref 83), some (.int q1)] [] S0 K) ∧ cf_W dw_WS S0 S2 ∧ dw_fin A2 S2 V st1 lim wc1 sh1 dd o ∧ st1 ≤ lim ∧ wc1 ≤ sh1 ∧ sh1 ≤ 20 := by
  obtain ⟨o2, A2, S2, st1, wc1, sh1, d1, d2, f1, f2, fi, l1, l2, l3⟩ := dw_loop hlim 20000 st wc sh b5 _ _ hrn hst hwc hsh hms
  have e1 := c1 0 (fun _ => 0) 0 (fun r B k => r = .inl (some (.int (Int32.ofNat o))) ∧ B = A1 ∧ k = 0) 0 0 (by omega) ⟨rfl, rfl, rfl⟩
  have e2 := d1 0 (fun _ => 0) 0 (fun r B k => r = .inl (some (.int (Int32.ofNat o2))) ∧ B = A2 ∧ k = 0) 0 0 (by omega) ⟨rfl, rfl, rfl⟩
  obtain ⟨g1, g2⟩ := cm_At_det e1 e2
  injection g1 with g3
  injection g3 with g4
  injection g4 with g5
  have ho2 : o2 ≤ 5 := by
    obtain ⟨_, _, _, _, _, _, _, _, h5, _⟩ := fi
    exact h5
  have : o = o2 := (cp_inj (by omega) (by omega)).mp g5
  subst this
  exact ⟨A2, S2, st1, wc1, sh1, g2, d2, f2, fi, l1, l2, l3⟩
/-- a run that was stopped is begun again -/
theorem dw_again {V : Nat → ct_T} {A S : cm_S} {st lim lim2 wc sh dd : Nat} (h : dw_fin A S V st lim wc sh dd 5) : dw_RN (cm_wI (cm_wI A 57 8 (Int32.ofNat lim2)) 57 6 (-2)) (cm_wI (cm_wI S 83 43 (Int32.ofNat lim2)) 83 40 (-1)) V st lim2 wc sh dd (2 * (st + 1 + sh)) := by
  obtain ⟨G, nc, ne, nf, nv, h1, ⟨k1, k2, k3, k4, k5, k6, k7, k8, k9, k10, k11⟩, h3, h4, h5, h6, h7, h8⟩ := h
  obtain ⟨r1, ⟨m1, g, q, t, t2, m2, m3, m4, m5, m6, m7⟩, r3⟩ := h7 rfl
  have fA : cf_W (fun b j => decide (b = 57 ∧ (j = 6 ∨ j = 8))) A (cm_wI (cm_wI A 57 8 (Int32.ofNat lim2)) 57 6 (-2)) := cf_tr (cf_wI (decide_eq_true (by omega))) (cf_wI (decide_eq_true (by omega)))
  have fS : cf_W (fun b j => decide (b = 83 ∧ (j = 40 ∨ j = 43))) S (cm_wI (cm_wI S 83 43 (Int32.ofNat lim2)) 83 40 (-1)) := cf_tr (cf_wI (decide_eq_true (by omega))) (cf_wI (decide_eq_true (by omega)))
  refine Or.inl ⟨G, nc, ne, nf, nv, ⟨dm_M_cf fA fS (fun b j hb => decide_eq_false (by omega)) (fun b j hb => decide_eq_false (by omega)) (decide_eq_false (by omega)) (decide_eq_false (by omega)) (decide_eq_false (by omega)) (decide_eq_false (by omega)) (decide_eq_false (by omega)) (decide_eq_false (by omega)) (decide_eq_false (by omega)) h1, ⟨(fA _ _ (decide_eq_false (by omega))).1.trans k1, (fS _ _ (decide_eq_false (by omega))).1.trans k2, by rw [cp_wI1, if_neg (by omega), cp_wI1, if_pos ⟨rfl, rfl⟩], by rw [cp_wI1, if_neg (by omega), cp_wI1, if_pos ⟨rfl, rfl⟩], (fA _ _ (decide_eq_false (by omega))).1.trans k5, (fS _ _ (decide_eq_false (by omega))).1.trans k6, (fA _ _ (decide_eq_false (by omega))).1.trans k7, (fS _ _ (decide_eq_false (by omega))).1.trans k8, ?_, fun i hi => ?_, fun i hi => ?_⟩, dm_rA_cf fA fS (fun b j hb => decide_eq_false (by omega)) (fun b j hb => decide_eq_false (by omega)) r1⟩, dw_ct_cf (fun i _ => (fA 73 i (decide_eq_false (by omega))).1) h3, Or.inl ⟨⟨by rw [cp_wI1, if_pos ⟨rfl, rfl⟩], by rw [cp_wI1, if_pos ⟨rfl, rfl⟩]⟩, Or.inl ⟨(fA _ _ (decide_eq_false (by omega))).1.trans m1, g, q, t, t2, (fA _ _ (decide_eq_false (by omega))).1.trans m2, dm_n_cf fA (fun b j q1 q2 => decide_eq_false (by omega)) fS (fun b x q1 q2 q3 q4 => decide_eq_false (by omega)) m3, ?_, (fS _ _ (decide_eq_false (by omega))).1.trans m5, ?_, (fS _ _ (decide_eq_false (by omega))).1.trans m7⟩⟩⟩
  · rw [(fA 77 3 (decide_eq_false (by omega))).2, (fS 83 71 (decide_eq_false (by omega))).2]; exact k9
  · rw [(fA 78 i (decide_eq_false (by omega))).1, (fS 129 i (decide_eq_false (by omega))).1]; exact k10 i hi
  · rw [(fA 79 i (decide_eq_false (by omega))).1, (fS 128 i (decide_eq_false (by omega))).1]; exact k11 i hi
  · rw [(fA 57 11 (decide_eq_false (by omega))).1]; exact m4
  · rw [(fA 57 11 (decide_eq_false (by omega))).1, (fS 83 64 (decide_eq_false (by omega))).1]; exact m6
section CPa40
variable {L : Nat} {xs : Nat → Int32} {d : Nat} {S : cm_S} {K : cm_K} {m : Int32}
/-- what there is to go on with -/
def dw_can (S : cm_S) : Prop := S.1 57 6 = 5 ∧ S.1 57 7 < (3000 : Int32)
theorem cq_goOn (k1 : ¬ (1 ≤ m.toInt ∧ m.toInt ≤ 1000) → K (.inl (some (.int 1))) S 1) (k2 : 1 ≤ m.toInt ∧ m.toInt ≤ 1000 → ¬ dw_can S → K (.inl (some (.int 2))) S 1)
    (k3 : 1 ≤ m.toInt ∧ m.toInt ≤ 1000 → dw_can S → ∃ o A1, (∀ (L : Nat) (xs : Nat → Int32) (d : Nat) (K : cm_K) (q1 : Int32) (t : Nat), t + 20000 < 1000000 → K (.inl (some (.int (Int32.ofNat o)))) A1 0 → cm_At (am_XX L xs) (d + 7) 59 18 [some (.ref 57), some (.int q1), some (.int (Int32.ofNat t))] [] (cm_wI (cm_wI S 57 8 (S.1 57 7 + m)) 57 6 (-2)) K) ∧ K (.inl (some (.int 0))) (cm_wJ A1 132 0 (Int32.ofNat o).toInt64) 0) :
    cm_At (am_XX L xs) (d + 10) 296 0 [some (.ref 0), some (.int m), some (.ref 132), none] [] S K := by
  refine cx_296_0 _ ?_
  refine cx_151_0 _ ?_
  refine cp_162s (d := d + 7) (fun hm => cp_r0 ?_) (fun hm => cp_x0 ?_)
  · intro x1 h1
    rw [h1]
    refine ⟨fun h5 => ?_, fun h5 => ?_⟩
    · intro x2 h2
      rw [h2]
      refine ⟨fun h3 => ?_, fun h3 => ?_⟩
      · obtain ⟨o, A1, c1, hk⟩ := k3 hm ⟨h5, h3⟩
        refine cx_59_0 _ ?_
        intro x3 h6
        rw [h6]
        intro S2 h7
        rw [h7]
        intro S3 h8
        rw [h8]
        refine c1 L xs (d + 1) _ _ 0 (by omega) (cp_r1 ?_)
        try dsimp only [cm_sh]
        refine cp_r1 ⟨cp_in (i := 0) (by decide) (by decide), ?_⟩
        intro S4 h9
        rw [h9]
        exact hk
      · try dsimp only [cm_sh]
        refine cp_x1 ?_
        refine ⟨by decide, fun h => absurd h (by decide), fun h => absurd h (by decide), fun _ => ?_⟩
        exact k2 hm (fun hc => h3 hc.2)
    · try dsimp only [cm_sh]
      refine cp_x1 ?_
      refine ⟨by decide, fun h => absurd h (by decide), fun h => absurd h (by decide), fun _ => ?_⟩
      exact k2 hm (fun hc => h5 hc.1)
  · try dsimp only [cm_sh]
    refine cp_x1 ?_
    refine ⟨by decide, fun h => absurd h (by decide), fun _ => ?_, fun h => absurd h (by decide)⟩
    exact k1 hm
def dw_canS (S : cm_S) : Prop := ¬ S.1 83 41 = 0 ∧ S.1 83 40 = 5 ∧ S.1 83 42 < (3000 : Int32)
theorem cs_goOn (k1 : ¬ (1 ≤ m.toInt ∧ m.toInt ≤ 1000) → K (.inl (some (.int 0))) (cm_wI S 83 75 1) 0) (k2 : 1 ≤ m.toInt ∧ m.toInt ≤ 1000 → ¬ dw_canS S → K (.inl (some (.int 0))) (cm_wI S 83 75 2) 0)
    (k3 : 1 ≤ m.toInt ∧ m.toInt ≤ 1000 → dw_canS S → ∃ o S1, (∀ (L : Nat) (xs : Nat → Int32) (d : Nat) (K : cm_K) (q1 : Int32), K (.inl (some (.int (Int32.ofNat o)))) S1 0 → cm_At (am_XX L xs) (d + 4) 263 15 [some (.ref 83), some (.int q1)] [] (cm_wI (cm_wI (cm_wI S 83 75 0) 83 43 (S.1 83 42 + m)) 83 40 (-1)) K) ∧ K (.inl (some (.int (Int32.ofNat o)))) S1 0) :
    cm_At (am_XX L xs) (d + 10) 265 0 [some (.ref 83), some (.int m)] [] S K := by
  refine cx_265_0 _ ?_
  refine cp_174s (d := d + 8) (fun hm => cp_r1 ?_) (fun hm => cp_r1 ?_)
  · refine ⟨fun h => absurd h (by decide), fun _ => ?_⟩
    intro x1 h1
    rw [h1]
    refine ⟨fun h0 => ?_, fun h0 => ?_⟩
    · refine cp_173 (d := d + 8) (cp_r1 ?_)
      exact ⟨fun _ => k2 hm (fun hc => hc.1 h0), fun h => absurd rfl h⟩
    · intro x2 h2
      rw [h2]
      refine ⟨fun h5 => ?_, fun h5 => ?_⟩
      · intro x3 h3
        rw [h3]
        refine ⟨fun h4 => ?_, fun h4 => ?_⟩
        · obtain ⟨o, S1, c1, hk⟩ := k3 hm ⟨h0, h5, h4⟩
          refine cp_173 (d := d + 8) (cp_r1 ?_)
          refine ⟨fun h => absurd h (by decide), fun _ => ?_⟩
          refine cx_263_0 _ ?_
          intro x4 h6
          rw [h6, cp_wI1, if_neg (by omega)]
          intro S2 h7
          rw [h7]
          intro S3 h8
          rw [h8]
          refine c1 L xs (d + 5) _ _ (cp_r1 ?_)
          exact hk
        · refine cp_173 (d := d + 8) (cp_r1 ?_)
          exact ⟨fun _ => k2 hm (fun hc => h4 hc.2.2), fun h => absurd rfl h⟩
      · refine cp_173 (d := d + 8) (cp_r1 ?_)
        exact ⟨fun _ => k2 hm (fun hc => h5 hc.2.1), fun h => absurd rfl h⟩
  · refine ⟨fun _ => ?_, fun h => absurd rfl h⟩
    refine cp_173 (d := d + 8) (cp_r1 ?_)
    exact ⟨fun _ => k1 hm, fun h => absurd rfl h⟩
end CPa40
section CPa40b
variable {L : Nat} {xs : Nat → Int32} {d : Nat} {N : List ct_E} {T U : Nat → ct_T} {R : List (Int32 × Int32 × Int32 × Int32)} {c n : Nat} {S : cm_S} {K : cm_K} {o5 o6 : Option Value}
theorem dw_canE (hmr : cr_mr S) : (dw_can S ↔ dw_canS S) ∧ (dw_can S → ∃ (V : Nat → ct_T) (st lim wc sh dd : Nat), dw_fin S S V st lim wc sh dd 5 ∧ st < 3000 ∧ S.1 57 7 = Int32.ofNat st ∧ S.1 83 42 = Int32.ofNat st ∧ S.1 83 41 = 1 ∧ wc ≤ sh ∧ sh ≤ 20) := by
  unfold dw_can dw_canS
  rcases hmr with ⟨h1, h2, h3, h4, h5⟩ | ⟨h1, V, st, lim, wc, sh, dd, o, h2, h3, h4, h5, h6⟩
  · rw [h1, h2]
    exact ⟨⟨fun hx => absurd hx.1 (by decide), fun hx => absurd rfl hx.1⟩, fun hx => absurd hx.1 (by decide)⟩
  · obtain ⟨G, nc, ne, nf, nv, g1, g2, g3, g4, g5, g6, g7, g8⟩ := id h2
    rw [h1, g5, g6, g2.1, g2.2.1]
    refine ⟨⟨fun hx => ⟨by decide, hx⟩, fun hx => hx.2⟩, fun hx => ?_⟩
    have ho : o = 5 := (cp_inj (b := 5) (by omega) (by omega)).mp hx.1
    subst ho
    have hst : st < 3000 := (cp_lt (b := 3000) (by omega) (by omega)).mp hx.2
    exact ⟨V, st, lim, wc, sh, dd, h2, hst, rfl, rfl, rfl, h5, h6⟩
theorem cr_goOn (hb : cr_b N T U R c S) (hmr : cr_mr S) (hL : n + 2 ≤ L) (hL2 : L < 2147483648) (k : ∀ S2 e q5 q6, e ≤ 1 → cr_b N T U R c S2 → cr_mr S2 → cm_At (am_XX L xs) (d + 11) 300 1907 [some (.ref 1000000), some (.ref 0), some (.ref 83), some (.ref 132), some (.int (Int32.ofNat n)), some (.int q5), some (.int q6), none] [] S2 (cm_sh K e)) :
    cm_At (am_XX L xs) (d + 11) 300 1682 [some (.ref 1000000), some (.ref 0), some (.ref 83), some (.ref 132), some (.int (Int32.ofNat n)), o5, o6, none] [] S K := by
  have ref : ∀ x : Int32, cr_b N T U R c (cm_wI S 83 75 x) ∧ cr_mr (cm_wI S 83 75 x) := fun x => by
    have f0 : cf_W (fun b j => decide (b = 83 ∧ j = 75)) S (cm_wI S 83 75 x) := cf_wI (decide_eq_true ⟨rfl, rfl⟩)
    exact ⟨cr_b_f2 f0 (fun b j h => by have h := of_decide_eq_true h; omega) hb, cr_mr_cf f0 (fun b j h => decide_eq_false (by omega)) hmr⟩
  obtain ⟨hce, hcf⟩ := dw_canE hmr
  refine cx_300_1682 _ _ _ ?_
  generalize xs (Int32.ofNat n + 1).toNatClampNeg = m
  refine ⟨cr_in (j := 1) (by omega) hL2, ?_⟩
  intro x1 h1
  rw [h1]
  refine cq_goOn (d := d) (fun hm => ?_) (fun hm hn => ?_) (fun hm hcan => ?_)
  · refine cp_r1 ⟨cr_in (j := 1) (by omega) hL2, ?_⟩
    intro x2 h2
    rw [h2]
    refine cs_goOn (d := d) (fun _ => cp_r1 ?_) (fun hx => absurd hx hm) (fun hx => absurd hx hm)
    refine cp_172 (cp_r1 ?_)
    rw [show (cm_wI S 83 75 1).1 83 75 = 1 from by rw [cp_wI1, if_pos ⟨rfl, rfl⟩]]
    refine ⟨fun _ => ⟨fun h0 => absurd h0 (by decide), fun _ => cx_300_1735 _ _ _ ?_⟩, fun h => absurd rfl h⟩
    simp only [dk_sh0]
    exact k _ 1 _ _ (Nat.le_refl _) (ref 1).1 (ref 1).2
  · refine cp_r1 ⟨cr_in (j := 1) (by omega) hL2, ?_⟩
    intro x2 h2
    rw [h2]
    refine cs_goOn (d := d) (fun hx => absurd hm hx) (fun _ _ => cp_r1 ?_) (fun _ hx => absurd (hce.mpr hx) hn)
    refine cp_172 (cp_r1 ?_)
    rw [show (cm_wI S 83 75 2).1 83 75 = 2 from by rw [cp_wI1, if_pos ⟨rfl, rfl⟩]]
    refine ⟨fun _ => ⟨fun h0 => absurd h0 (by decide), fun _ => cx_300_1735 _ _ _ ?_⟩, fun h => absurd rfl h⟩
    simp only [dk_sh0]
    exact k _ 1 _ _ (Nat.le_refl _) (ref 2).1 (ref 2).2
  · obtain ⟨V, st, lim, wc, sh, dd, hfin, hst, e57, e42, e41, hwc, hsh⟩ := hcf hcan
    obtain ⟨more, hmo, hmo1, hmo2⟩ := cp_of (p := m) (by omega)
    have hmo3 : more ≤ 1000 := by omega
    rw [hmo]
    have hR := dw_again (lim2 := st + more) hfin
    have ms : 3 * (st + more - st) + 2 * (st + 1 + sh) + 2 * (20 - sh) < 20000 := by omega
    obtain ⟨o, A1, _, st0, wc0, sh0, c1, _, fA1, _, fi0, _, _, _⟩ := dw_loop (by omega) 20000 st wc sh _ _ _ hR (by omega) hwc hsh ms
    have ho : o ≤ 5 := by
      obtain ⟨_, _, _, _, _, _, _, _, h5, _⟩ := fi0
      exact h5
    refine ⟨o, A1, by rw [e57, cp_ad]; exact c1, ?_⟩
    have fSw : cf_W (fun b _ => decide (57 ≤ b ∧ b ≤ 79 ∨ b = 132)) S (cm_wJ A1 132 0 (Int32.ofNat o).toInt64) := cf_tr (cf_wI (decide_eq_true (by omega))) (cf_tr (cf_wI (decide_eq_true (by omega))) (cf_tr (cf_mono fA1 (fun b j h => decide_eq_true (by have h := of_decide_eq_true h; omega))) (cf_wJ (decide_eq_true (by omega)))))
    have v132 : (cm_wJ A1 132 0 (Int32.ofNat o).toInt64).2 132 0 = (Int32.ofNat o).toInt64 := by rw [cp_wJ2, if_pos ⟨rfl, rfl⟩]
    have fAw : cf_W (fun b _ => decide (b = 132)) A1 (cm_wJ A1 132 0 (Int32.ofNat o).toInt64) := cf_wJ (decide_eq_true rfl)
    generalize cm_wJ A1 132 0 (Int32.ofNat o).toInt64 = Aw at fSw v132 fAw ⊢
    have hcanW : dw_canS Aw := by
      obtain ⟨q1, q2, q3⟩ := hce.mp hcan
      exact ⟨by rw [(fSw 83 41 (decide_eq_false (by omega))).1]; exact q1, (fSw 83 40 (decide_eq_false (by omega))).1.trans q2, by rw [(fSw 83 42 (decide_eq_false (by omega))).1]; exact q3⟩
    refine cp_r1 ⟨cr_in (j := 1) (by omega) hL2, ?_⟩
    intro x2 h2
    rw [h2]
    refine cs_goOn (S := Aw) (d := d) (fun hx => absurd (by rw [← hmo]; exact hm) hx) (fun _ hx => absurd hcanW hx) (fun _ _ => ?_)
    have f0 : cf_W (fun b j => decide (b = 83 ∧ j = 75)) Aw (cm_wI Aw 83 75 0) := cf_wI (decide_eq_true ⟨rfl, rfl⟩)
    have hfin2 : dw_fin S (cm_wI Aw 83 75 0) V st lim wc sh dd 5 := dw_fin_cf (WA := fun _ _ => false) (WS := fun b j => decide (57 ≤ b ∧ b ≤ 79 ∨ b = 132 ∨ b = 83 ∧ j = 75)) cf_rfl (cf_tr (cf_mono fSw (fun b j h => decide_eq_true (by have h := of_decide_eq_true h; omega))) (cf_mono f0 (fun b j h => decide_eq_true (by have h := of_decide_eq_true h; omega)))) (fun b j hx => rfl) (fun b j hx => decide_eq_false (by omega)) hfin
    obtain ⟨A2, S2, st1, wc1, sh1, hh, c2m, f2, fi, l3, l4, l5⟩ := dw_both2 (dw_again (lim2 := st + more) hfin2) (by omega) (by omega) hwc hsh ms c1 ho
    refine ⟨o, S2, ?_, cp_r1 ?_⟩
    · rw [(fSw 83 42 (decide_eq_false (by omega))).1, e42, cp_ad]
      exact c2m
    have fTs : cf_W (fun b j => decide (b = 83 ∧ (j = 40 ∨ j = 43 ∨ j = 75))) Aw (cm_wI (cm_wI (cm_wI Aw 83 75 0) 83 43 (Int32.ofNat (st + more))) 83 40 (-1)) := cf_tr (cf_wI (decide_eq_true (by omega))) (cf_tr (cf_wI (decide_eq_true (by omega))) (cf_wI (decide_eq_true (by omega))))
    have fAS : cf_W (fun b j => decide (b = 83 ∧ 40 ≤ j ∧ j ≤ 75 ∨ 114 ≤ b ∧ b ≤ 129)) Aw S2 := cf_tr (cf_mono fTs (fun b j h => decide_eq_true (by have h := of_decide_eq_true h; omega))) (cf_mono f2 (fun b j h => decide_eq_true (by have h := of_decide_eq_true h; omega)))
    have e75b : S2.1 83 75 = 0 := by
      rw [(f2 83 75 (decide_eq_false (by omega))).1, cp_wI1, if_neg (by omega), cp_wI1, if_neg (by omega), cp_wI1, if_pos ⟨rfl, rfl⟩]
    have e41b : S2.1 83 41 = 1 := by
      rw [(f2 83 41 (decide_eq_false (by omega))).1, cp_wI1, if_neg (by omega), cp_wI1, if_neg (by omega), cp_wI1, if_neg (by omega), (fSw 83 41 (decide_eq_false (by omega))).1]
      exact e41
    have hh2 : cm_h S2 0 cm_T = cm_h (dw_mix A2 S2) 0 cm_T := dw_mix_h (W := fun b j => decide (b = 132 ∨ b = 83 ∨ 114 ≤ b ∧ b ≤ 129)) hh (cf_tr (cf_mono fAw (fun b j h => decide_eq_true (by have h := of_decide_eq_true h; omega))) (cf_mono fAS (fun b j h => decide_eq_true (by have h := of_decide_eq_true h; omega)))) (fun b j q1 q2 => decide_eq_false (by omega))
    have fS3 : cf_W (fun b j => decide (57 ≤ b ∧ b ≤ 79 ∨ b = 132 ∨ b = 83 ∧ 40 ≤ j ∧ j ≤ 75 ∨ 114 ≤ b ∧ b ≤ 129)) S (dw_mix A2 S2) := cf_tr (cf_mono fSw (fun b j h => decide_eq_true (by have h := of_decide_eq_true h; omega))) (cf_tr (cf_mono fAS (fun b j h => decide_eq_true (by have h := of_decide_eq_true h; omega))) (cf_mono dw_mix_S (fun b j h => decide_eq_true (by have h := of_decide_eq_true h; omega))))
    have csM : cl_cs (dw_mix A2 S2) c := cl_cs_f fS3 (decide_eq_false (by omega)) (fun j => decide_eq_false (by omega)) hb.2.2.2.2.2.2.2.2.2.2.2.2.2
    have hbM : cr_b N T U R c (dw_mix A2 S2) := cr_b_f3 fS3 (fun b j h => by have h := of_decide_eq_true h; omega) csM hb
    have hmM : cr_mr (dw_mix A2 S2) := Or.inr ⟨(dw_mix_S 83 41 (decide_eq_false (by omega))).1.trans e41b, V, st1, st + more, wc1, sh1, dd, o, dw_fin_cf dw_mix_A dw_mix_S (fun b j hx => decide_eq_false (by omega)) (fun b j hx => decide_eq_false (by omega)) fi, l3, by omega, l4, l5⟩
    refine cp_172 (cp_r1 ?_)
    rw [e75b]
    refine ⟨fun _ => ⟨fun _ => ⟨cp_in (i := 0) (by decide) (by decide), ?_⟩, fun h => absurd rfl h⟩, fun h => absurd rfl h⟩
    intro x7 h7
    rw [h7, show (0 : Int32).toNatClampNeg = 0 from rfl, (fAS 132 0 (decide_eq_false (by omega))).2, v132]
    refine ⟨fun _ => cx_300_1735 _ _ _ ?_, fun h => absurd (cu_lg.mpr rfl) h⟩
    simp only [dk_sh0]
    have hk := k (dw_mix A2 S2) 0 0 (Int32.ofNat o) (Nat.zero_le _) hbM hmM
    rw [dk_sh0] at hk
    exact cm_At_h hh2 hk
end CPa40b
