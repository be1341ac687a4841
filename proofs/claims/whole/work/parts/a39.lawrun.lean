/-! ## a39 the law's case of run -/
section CPa39
variable {L : Nat} {xs : Nat → Int32} {d : Nat} {T W : Nat → ct_T} {S : cm_S} {K : cm_K} {p m q3 : Int32} {sl pl c : Nat}
theorem cs_run (hq : q3 = 0 ∧ sl = 8 ∧ pl = 1200 ∨ q3 = 1 ∧ sl = 0 ∧ pl = 0) (hT : cl_i S T) (hds : ct_ds W) (hd : cl_d S sl pl W) (hTW : ∀ i, i < 8 → (T i = .leaf ↔ W i = .leaf)) (hcs : cl_cs S c) (hcb : c + 8 < 2000000000)
    (k1 : ¬ ct_df T p → K (.inl (some (.int 0))) (cm_wI S 83 75 1) 0) (k2 : ct_df T p → ¬ (1 ≤ m.toInt ∧ m.toInt ≤ 1000) → K (.inl (some (.int 0))) (cm_wI S 83 75 2) 0)
    (k3 : ∀ dd lim T1 c2, p = Int32.ofNat dd → dd < 8 → ¬ W dd = .leaf → m = Int32.ofNat lim → 1 ≤ lim → lim ≤ 1000 → dw_bS W T1 → cl_cs T1 c2 → c ≤ c2 → c2 ≤ c + 8 → cf_W dw_Wm S T1 → T1.1 83 75 = 0 → ∃ o S1, (∀ (L : Nat) (xs : Nat → Int32) (d : Nat) (K : cm_K) (q1 : Int32), K (.inl (some (.int (Int32.ofNat o)))) S1 0 → cm_At (am_XX L xs) (d + 4) 263 15 [some (.ref 83), some (.int q1)] [] (dw_ss W dd lim T1) K) ∧ K (.inl (some (.int (Int32.ofNat o)))) S1 0) :
    cm_At (am_XX L xs) (d + 160) 264 0 [some (.ref 83), some (.int p), some (.int m), some (.int q3), none, none, none] [] S K := by
  refine cx_264_0 _ _ _ ?_
  refine cp_178 (d := d + 156) hT (fun hdf => cp_r1 ?_) (fun hdf => cp_r1 ?_)
  · refine ⟨fun h => absurd h (by decide), fun _ => ?_⟩
    refine cp_174s (d := d + 158) (fun hm => cp_r1 ?_) (fun hm => cp_r1 ?_)
    · refine ⟨fun h => absurd h (by decide), fun _ => ?_⟩
      refine cp_173 (d := d + 158) (cp_r1 ?_)
      refine ⟨fun h => absurd h (by decide), fun _ => ⟨Or.inr rfl, ?_⟩⟩
      obtain ⟨dd, hdd, hp, hl⟩ := ct_df_of hdf
      obtain ⟨lim, hlim, hl1, hl2⟩ := cp_of (p := m) (by omega)
      have hW : ¬ W dd = .leaf := fun hx => hl ((hTW dd hdd).mpr hx)
      obtain rfl := hp
      obtain rfl := hlim
      have f0 : cf_W (fun b j => decide (b = 83 ∧ j = 75)) S (cm_wI S 83 75 0) := cf_wI (decide_eq_true ⟨rfl, rfl⟩)
      intro S1 h1
      rw [h1]
      intro S2 h2
      rw [h2]
      intro S3 h3
      rw [h3]
      intro S4 h4
      rw [h4]
      intro S5 h5
      rw [h5]
      intro S6 h6
      rw [h6]
      intro S7 h7
      rw [h7]
      intro S8 h8
      rw [h8]
      intro S9 h9
      rw [h9]
      simp only [dk_sh0]
      refine cp_264b (S := cm_wI S 83 75 0) (K := K) hq hds (dw_wf hds) (cl_d_fr hds f0 (fun j hj => decide_eq_false (by omega)) (fun b y q1 q2 q3 q4 => decide_eq_false (by omega)) hd) (fun i hi => ?_) (cl_cs_f f0 (decide_eq_false (by omega)) (fun j => decide_eq_false (by omega)) hcs) hcb hdd hW (fun T1 c2 hbS cs2 l1 l2 f1 e75 => ?_)
      · rw [(f0 102 i (decide_eq_false (by omega))).1]
        exact ⟨fun hx => (hT i hi).1 ((hTW i hi).mpr hx), fun hx => (hT i hi).2 (fun hy => hx ((hTW i hi).mp hy))⟩
      · obtain ⟨o, S1, c1, hk⟩ := k3 dd lim T1 c2 rfl hdd hW rfl (by omega) (by omega) hbS cs2 l1 l2 (cf_tr (cf_mono f0 (fun b j h => decide_eq_true (by have h := of_decide_eq_true h; omega))) f1) (by rw [e75, cp_wI1, if_pos ⟨rfl, rfl⟩])
        refine cx_263_0 _ ?_
        intro x1 g1
        have e42 : (dw_bs W dd T1).1 83 42 = Int32.ofNat 0 := by
          unfold dw_bs
          rw [(dw_ev_cf 83 42 (decide_eq_false (by omega))).1, (me_ws_cf 83 42 (decide_eq_false (by omega))).1, cp_wI1, if_neg (by omega)]
          exact hbS.2.1
        rw [g1, e42, cp_ad, Nat.zero_add]
        intro S2 g2
        rw [g2]
        intro S3 g3
        rw [g3]
        exact c1 L xs (d + 155) _ _ (cp_r1 hk)
    · refine ⟨fun _ => ?_, fun h => absurd rfl h⟩
      refine cp_173 (d := d + 158) (cp_r1 ?_)
      exact ⟨fun _ => k2 hdf hm, fun h => absurd rfl h⟩
  · refine ⟨fun _ => ?_, fun h => absurd rfl h⟩
    refine cp_173 (d := d + 158) (cp_r1 ?_)
    exact ⟨fun _ => k1 hdf, fun h => absurd rfl h⟩
/-- there is a state of the model that it begins with -/
theorem dw_ex {dd : Nat} (hq : q3 = 0 ∧ sl = 8 ∧ pl = 1200 ∨ q3 = 1 ∧ sl = 0 ∧ pl = 0) (hT : cl_i S T) (hds : ct_ds W) (hd : cl_d S sl pl W) (hTW : ∀ i, i < 8 → (T i = .leaf ↔ W i = .leaf)) (hcs : cl_cs S c) (hcb : c + 8 < 2000000000) (hdd : dd < 8) (hW : ¬ W dd = .leaf) : ∃ T1, dw_bS W T1 := by
  refine Classical.byContradiction (fun hn => ?_)
  have h := cp_264b (L := 0) (xs := fun _ => 0) (d := 0) (S := S) (K := fun _ _ _ => False) (q2 := 0) (q3 := q3) hq hds (dw_wf hds) hd (fun i hi => ⟨fun hx => (hT i hi).1 ((hTW i hi).mpr hx), fun hx => (hT i hi).2 (fun hy => hx ((hTW i hi).mp hy))⟩) hcs hcb hdd hW (fun T1 c2 hb _ _ _ _ _ => absurd ⟨T1, hb⟩ hn)
  obtain ⟨f, r, S2, k, _, hF⟩ := h
  exact hF
end CPa39
section CPa39b
variable {L : Nat} {xs : Nat → Int32} {d : Nat} {N : List ct_E} {T U : Nat → ct_T} {R : List (Int32 × Int32 × Int32 × Int32)} {c n : Nat} {S : cm_S} {K : cm_K} {o5 o6 : Option Value}
/-- both sides at the end of a run, from what the class came to -/
theorem dw_both {W : Nat → ct_T} {B T1 A1 : cm_S} {dd lim o : Nat} (hds : ct_ds W) (hdd : dd < 8) (hne : ¬ W dd = .leaf) (hlim : lim ≤ 1000) (hb : dw_bA W dd B) (ht : dw_bS W T1) (c1 : ∀ (L : Nat) (xs : Nat → Int32) (d : Nat) (K : cm_K) (q1 : Int32) (t : Nat), t + 20000 < 1000000 → K (.inl (some (.int (Int32.ofNat o)))) A1 0 → cm_At (am_XX L xs) (d + 7) 59 18 [some (.ref 57), some (.int q1), some (.int (Int32.ofNat t))] [] (dw_as dd lim B) K) (ho : o ≤ 5) : ∃ (A2 S2 : cm_S) (st1 wc1 sh1 : Nat), cm_h A1 0 cm_T = cm_h A2 0 cm_T ∧ (∀ (L : Nat) (xs : Nat → Int32) (d : Nat) (K : cm_K) (q1 : Int32), K (.inl (some (.int (Int32.ofNat o)))) S2 0 → cm_At (am_XX L xs) (d + 4) 263 15 [some (.ref 83), some (.int q1)] [] (dw_ss W dd lim T1) K) ∧ cf_W dw_WS (dw_ss W dd lim T1) S2 ∧ dw_fin A2 S2 W st1 lim wc1 sh1 dd o ∧ st1 ≤ lim ∧ wc1 ≤ sh1 ∧ sh1 ≤ 20 := by
  obtain ⟨o2, A2, S2, st1, wc1, sh1, d1, d2, f1, f2, fi, l1, l2, l3⟩ := dw_loop (by omega) 20000 0 0 0 1 _ _ (dw_start (lim := lim) hds hdd hne hb ht) (Nat.zero_le _) (Nat.le_refl _) (Nat.zero_le _) (by omega)
  have e1 := c1 0 (fun _ => 0) 0 (fun r B k => r = .inl (some (.int (Int32.ofNat o))) ∧ B = A1 ∧ k = 0) 0 0 (by omega) ⟨rfl, rfl, rfl⟩
  have e2 := d1 0 (fun _ => 0) 0 (fun r B k => r = .inl (some (.int (Int32.ofNat o2))) ∧ B = A2 ∧ k = 0) 0 0 (by omega) ⟨rfl, rfl, rfl⟩
  obtain ⟨g1, g2⟩ := cm_At_det e1 e2
  injection g1 with g3
  injection g3 with g4
  injection g4 with g5
  have ho2 : o2 ≤ 5 := by
    obtain ⟨_, _, _, _, _, _, _, _, h5, _⟩ := fi
    exact h5
  have : o = o2 := (cp_inj (by omega) (by omega)).mp g5
  subst this
  exact ⟨A2, S2, st1, wc1, sh1, g2, d2, f2, fi, l1, l2, l3⟩
theorem cr_run (hb : cr_b N T U R c S) (hmr : cr_mr S) (hc : c + 8 < 2000000000) (hL : n + 4 ≤ L) (hL2 : L < 2147483648) (k : ∀ S2 c2 e q5 q6, e ≤ 1 → c2 ≤ c + 8 → cr_b N T U R c2 S2 → cr_mr S2 → cm_At (am_XX L xs) (d + 161) 300 1907 [some (.ref 1000000), some (.ref 0), some (.ref 83), some (.ref 132), some (.int (Int32.ofNat n)), some (.int q5), some (.int q6), none] [] S2 (cm_sh K e)) :
    cm_At (am_XX L xs) (d + 161) 300 1586 [some (.ref 1000000), some (.ref 0), some (.ref 83), some (.ref 132), some (.int (Int32.ofNat n)), o5, o6, none] [] S K := by
  obtain ⟨g1, g2, g3, g4, g5, g6, g7, g8, g9, g10, g11, g12, g13, g14⟩ := id hb
  have hTw : ∀ i, i < 8 → ct_wf (T i) := fun i hi => (dw_wf g9 i hi).1
  -- a refused call
  have ref : ∀ x : Int32, cr_b N T U R c (cm_wI S 83 75 x) ∧ cr_mr (cm_wI S 83 75 x) := fun x => by
    have f0 : cf_W (fun b j => decide (b = 83 ∧ j = 75)) S (cm_wI S 83 75 x) := cf_wI (decide_eq_true ⟨rfl, rfl⟩)
    exact ⟨cr_b_f2 f0 (fun b j h => by have h := of_decide_eq_true h; omega) hb, cr_mr_cf f0 (fun b j h => decide_eq_false (by omega)) hmr⟩
  refine cx_300_1586 _ _ _ ?_
  generalize xs (Int32.ofNat n + 1).toNatClampNeg = p
  generalize xs (Int32.ofNat n + 2).toNatClampNeg = m
  generalize xs (Int32.ofNat n + 3).toNatClampNeg = fl
  refine ⟨cr_in (j := 1) (by omega) hL2, ?_⟩
  intro x1 h1
  rw [h1]
  refine ⟨cr_in (j := 2) (by omega) hL2, ?_⟩
  intro x2 h2
  rw [h2]
  refine ⟨cr_in (j := 3) (by omega) hL2, ?_⟩
  intro x3 h3
  rw [h3]
  by_cases hfl : fl = 0
  · refine ⟨fun _ => ?_, fun hx => absurd hfl hx⟩
    refine cq_run (d := d + 150) (W := U) (Or.inl ⟨rfl, rfl⟩) g4 hTw g10 g5 g11 (fun hdf => ?_) (fun hdf hm => ?_) (fun dd lim B hp hdd hW hm hl1 hl2 hbA fB => ?_)
    · refine cp_r1 ?_
      refine ⟨cr_in (j := 1) (by omega) hL2, ?_⟩
      intro x4 h4
      rw [h4]
      refine ⟨cr_in (j := 2) (by omega) hL2, ?_⟩
      intro x5 h5
      rw [h5]
      refine ⟨cr_in (j := 3) (by omega) hL2, ?_⟩
      intro x6 h6
      rw [h6]
      refine ⟨fun _ => ?_, fun hx => absurd hfl hx⟩
      refine cs_run (d := d) (T := T) (W := U) (Or.inl ⟨rfl, rfl, rfl⟩) g8 g10 g7 g11 g14 hc (fun _ => cp_r1 ?_) (fun hx => absurd hx hdf) (fun dd lim T1 c2 hp hdd hW => absurd ⟨by rw [hp, cp_tI (by omega)]; omega, by rw [hp, cp_tI (by omega)]; omega, by rw [hp, cp_cl (by omega)]; exact fun hx => hW ((g11 dd hdd).mp hx)⟩ hdf)
      refine cp_172 (cp_r1 ?_)
      rw [show (cm_wI S 83 75 1).1 83 75 = 1 from by rw [cp_wI1, if_pos ⟨rfl, rfl⟩]]
      refine ⟨fun _ => ⟨fun h0 => absurd h0 (by decide), fun _ => cx_300_1679 _ _ _ ?_⟩, fun h => absurd rfl h⟩
      simp only [dk_sh0]
      exact k _ c 1 _ _ (Nat.le_refl _) (by omega) (ref 1).1 (ref 1).2
    · refine cp_r1 ?_
      refine ⟨cr_in (j := 1) (by omega) hL2, ?_⟩
      intro x4 h4
      rw [h4]
      refine ⟨cr_in (j := 2) (by omega) hL2, ?_⟩
      intro x5 h5
      rw [h5]
      refine ⟨cr_in (j := 3) (by omega) hL2, ?_⟩
      intro x6 h6
      rw [h6]
      refine ⟨fun _ => ?_, fun hx => absurd hfl hx⟩
      refine cs_run (d := d) (T := T) (W := U) (Or.inl ⟨rfl, rfl, rfl⟩) g8 g10 g7 g11 g14 hc (fun hx => absurd hdf hx) (fun _ _ => cp_r1 ?_) (fun dd lim T1 c2 hp hdd hW hlm hl1 hl2 => absurd ⟨by rw [hlm, cp_tI (by omega)]; omega, by rw [hlm, cp_tI (by omega)]; omega⟩ hm)
      refine cp_172 (cp_r1 ?_)
      rw [show (cm_wI S 83 75 2).1 83 75 = 2 from by rw [cp_wI1, if_pos ⟨rfl, rfl⟩]]
      refine ⟨fun _ => ⟨fun h0 => absurd h0 (by decide), fun _ => cx_300_1679 _ _ _ ?_⟩, fun h => absurd rfl h⟩
      simp only [dk_sh0]
      exact k _ c 1 _ _ (Nat.le_refl _) (by omega) (ref 2).1 (ref 2).2
    · obtain ⟨T0, hT0⟩ := dw_ex (Or.inl ⟨rfl, rfl, rfl⟩) g8 g10 g7 g11 g14 hc hdd hW
      obtain ⟨o, A1, _, st0, wc0, sh0, c1, _, fA1, _, fi0, _, _, _⟩ := dw_loop (by omega) 20000 0 0 0 1 _ _ (dw_start (lim := lim) g10 hdd hW hbA hT0) (Nat.zero_le _) (Nat.le_refl _) (Nat.zero_le _) (by omega)
      have ho : o ≤ 5 := by
        obtain ⟨_, _, _, _, _, _, _, _, h5, _⟩ := fi0
        exact h5
      refine ⟨o, A1, c1, ?_⟩
      have fBs : cf_W (fun b _ => decide (57 ≤ b ∧ b ≤ 79)) B (dw_as dd lim B) := cf_tr (cf_wI (decide_eq_true (by omega))) (cf_tr (cf_mono de_ps_cf (fun b j h => decide_eq_true (by have h := of_decide_eq_true h; omega))) (cf_tr (cf_mono dw_nx_cf (fun b j h => decide_eq_true (by have h := of_decide_eq_true h; omega))) (cf_tr (cf_wI (decide_eq_true (by omega))) (cf_wI (decide_eq_true (by omega))))))
      have fSw : cf_W (fun b _ => decide (57 ≤ b ∧ b ≤ 79 ∨ b = 132)) S (cm_wJ A1 132 0 (Int32.ofNat o).toInt64) := cf_tr (cf_mono fB (fun b j h => decide_eq_true (by have h := of_decide_eq_true h; omega))) (cf_tr (cf_mono fBs (fun b j h => decide_eq_true (by have h := of_decide_eq_true h; omega))) (cf_tr (cf_mono fA1 (fun b j h => decide_eq_true (by have h := of_decide_eq_true h; omega))) (cf_wJ (decide_eq_true (by omega)))))
      have v132 : (cm_wJ A1 132 0 (Int32.ofNat o).toInt64).2 132 0 = (Int32.ofNat o).toInt64 := by rw [cp_wJ2, if_pos ⟨rfl, rfl⟩]
      have fAw : cf_W (fun b _ => decide (b = 132)) A1 (cm_wJ A1 132 0 (Int32.ofNat o).toInt64) := cf_wJ (decide_eq_true rfl)
      generalize cm_wJ A1 132 0 (Int32.ofNat o).toInt64 = Aw at fSw v132 fAw ⊢
      refine cp_r1 ?_
      refine ⟨cr_in (j := 1) (by omega) hL2, ?_⟩
      intro x4 h4
      rw [h4]
      refine ⟨cr_in (j := 2) (by omega) hL2, ?_⟩
      intro x5 h5
      rw [h5]
      refine ⟨cr_in (j := 3) (by omega) hL2, ?_⟩
      intro x6 h6
      rw [h6]
      refine ⟨fun _ => ?_, fun hx => absurd hfl hx⟩
      refine cs_run (S := Aw) (d := d) (T := T) (W := U) (Or.inl ⟨rfl, rfl, rfl⟩) (cl_i_cf fSw (fun j => decide_eq_false (by omega)) g8) g10 (cl_d_fr g10 fSw (fun j hj => decide_eq_false (by omega)) (fun b y q1 q2 q3 q4 => decide_eq_false (by omega)) g7) g11 (cl_cs_f fSw (decide_eq_false (by omega)) (fun j => decide_eq_false (by omega)) g14) hc (fun hx => absurd ⟨by rw [hp, cp_tI (by omega)]; omega, by rw [hp, cp_tI (by omega)]; omega, by rw [hp, cp_cl (by omega)]; exact fun hy => hW ((g11 dd hdd).mp hy)⟩ hx) (fun _ hx => absurd ⟨by rw [hm, cp_tI (by omega)]; omega, by rw [hm, cp_tI (by omega)]; omega⟩ hx) (fun dd2 lim2 T1 c2 hp2 hdd2 hW2 hm2 hl3 hl4 hbS cs2 l1 l2 fT e75 => ?_)
      obtain rfl : dd = dd2 := (cp_inj (by omega) (by omega)).mp (hp.symm.trans hp2)
      obtain rfl : lim = lim2 := (cp_inj (by omega) (by omega)).mp (hm.symm.trans hm2)
      obtain ⟨A2, S2, st1, wc1, sh1, hh, c2m, f2, fi, l3, l4, l5⟩ := dw_both g10 hdd hW hl2 hbA hbS c1 ho
      refine ⟨o, S2, c2m, cp_r1 ?_⟩
      have fTs : cf_W dw_Wm T1 (dw_ss U dd lim T1) := cf_tr (cf_wI (decide_eq_true (by omega))) (cf_tr (cf_mono me_ws_cf (fun b j h => decide_eq_true (by have h := of_decide_eq_true h; omega))) (cf_tr (cf_mono dw_ev_cf (fun b j h => decide_eq_true (by have h := of_decide_eq_true h; omega))) (cf_tr (cf_wI (decide_eq_true (by omega))) (cf_wI (decide_eq_true (by omega))))))
      have e75b : (dw_ss U dd lim T1).1 83 75 = 0 := by
        unfold dw_ss dw_bs
        rw [cp_wI1, if_neg (by omega), cp_wI1, if_neg (by omega), (dw_ev_cf 83 75 (decide_eq_false (by omega))).1, (me_ws_cf 83 75 (decide_eq_false (by omega))).1, cp_wI1, if_neg (by omega)]
        exact e75
      have e41 : (dw_ss U dd lim T1).1 83 41 = 1 := by
        unfold dw_ss dw_bs
        rw [cp_wI1, if_neg (by omega), cp_wI1, if_neg (by omega), (dw_ev_cf 83 41 (decide_eq_false (by omega))).1, (me_ws_cf 83 41 (decide_eq_false (by omega))).1, cp_wI1, if_neg (by omega)]
        exact hbS.1
      have cs3 : cl_cs (dw_ss U dd lim T1) c2 := by
        have f5 : cf_W (fun b j => decide (114 ≤ b ∧ b ≤ 127 ∨ b = 83 ∧ 40 ≤ j ∧ j ≤ 65)) T1 (dw_ss U dd lim T1) := cf_tr (cf_wI (decide_eq_true (by omega))) (cf_tr (cf_mono me_ws_cf (fun b j h => decide_eq_true (by have h := of_decide_eq_true h; omega))) (cf_tr (cf_mono dw_ev_cf (fun b j h => decide_eq_true (by have h := of_decide_eq_true h; omega))) (cf_tr (cf_wI (decide_eq_true (by omega))) (cf_wI (decide_eq_true (by omega))))))
        exact cl_cs_f f5 (decide_eq_false (by omega)) (fun j => decide_eq_false (by omega)) cs2
      have fAS : cf_W (fun b j => decide (92 ≤ b ∧ b ≤ 98 ∧ 2400 ≤ j ∧ j < 3600 ∨ b = 83 ∧ (j = 17 ∨ j = 19 ∨ j = 20 ∨ j = 23 ∨ 40 ≤ j ∧ j ≤ 75) ∨ b = 100 ∨ b = 101 ∨ 114 ≤ b ∧ b ≤ 129)) Aw S2 := cf_tr fT (cf_tr fTs (cf_mono f2 (fun b j h => decide_eq_true (by have h := of_decide_eq_true h; omega))))
      have hh2 : cm_h S2 0 cm_T = cm_h (dw_mix A2 S2) 0 cm_T := dw_mix_h (W := fun b j => decide (b = 132 ∨ 92 ≤ b ∧ b ≤ 98 ∨ b = 83 ∨ b = 100 ∨ b = 101 ∨ 114 ≤ b ∧ b ≤ 129)) hh (cf_tr (cf_mono fAw (fun b j h => decide_eq_true (by have h := of_decide_eq_true h; omega))) (cf_mono fAS (fun b j h => decide_eq_true (by have h := of_decide_eq_true h; omega)))) (fun b j q1 q2 => decide_eq_false (by omega))
      have fS3 : cf_W (fun b j => decide (57 ≤ b ∧ b ≤ 79 ∨ b = 132 ∨ 92 ≤ b ∧ b ≤ 98 ∧ 2400 ≤ j ∧ j < 3600 ∨ b = 83 ∧ (j = 17 ∨ j = 19 ∨ j = 20 ∨ j = 23 ∨ 40 ≤ j ∧ j ≤ 75) ∨ b = 100 ∨ b = 101 ∨ 114 ≤ b ∧ b ≤ 129)) S (dw_mix A2 S2) := cf_tr (cf_mono fSw (fun b j h => decide_eq_true (by have h := of_decide_eq_true h; omega))) (cf_tr (cf_mono fAS (fun b j h => decide_eq_true (by have h := of_decide_eq_true h; omega))) (cf_mono dw_mix_S (fun b j h => decide_eq_true (by have h := of_decide_eq_true h; omega))))
      have csM : cl_cs (dw_mix A2 S2) c2 := cl_cs_f dw_mix_S (decide_eq_false (by omega)) (fun j => decide_eq_false (by omega)) (cl_cs_f f2 (decide_eq_false (by omega)) (fun j => decide_eq_false (by omega)) cs3)
      have hbM : cr_b N T U R c2 (dw_mix A2 S2) := cr_b_f3 fS3 (fun b j h => by have h := of_decide_eq_true h; omega) csM hb
      have hmM : cr_mr (dw_mix A2 S2) := Or.inr ⟨(dw_mix_S 83 41 (decide_eq_false (by omega))).1.trans ((f2 83 41 (decide_eq_false (by omega))).1.trans e41), U, st1, lim, wc1, sh1, dd, o, dw_fin_cf dw_mix_A dw_mix_S (fun b j hx => decide_eq_false (by omega)) (fun b j hx => decide_eq_false (by omega)) fi, l3, by omega, l4, l5⟩
      refine cp_172 (cp_r1 ?_)
      rw [(f2 83 75 (decide_eq_false (by omega))).1, e75b]
      refine ⟨fun _ => ⟨fun _ => ⟨cp_in (i := 0) (by decide) (by decide), ?_⟩, fun h => absurd rfl h⟩, fun h => absurd rfl h⟩
      intro x7 h7
      rw [h7, show (0 : Int32).toNatClampNeg = 0 from rfl, (fAS 132 0 (decide_eq_false (by omega))).2, v132]
      refine ⟨fun _ => cx_300_1679 _ _ _ ?_, fun h => absurd (cu_lg.mpr rfl) h⟩
      simp only [dk_sh0]
      have hk := k (dw_mix A2 S2) c2 0 0 (Int32.ofNat o) (Nat.zero_le _) l2 hbM hmM
      rw [dk_sh0] at hk
      exact cm_At_h hh2 hk
  · refine ⟨fun hx => absurd hx hfl, fun _ => ?_⟩
    refine cq_run (d := d + 150) (W := T) (Or.inr ⟨rfl, rfl⟩) g4 hTw g9 g4 (fun i _ => Iff.rfl) (fun hdf => ?_) (fun hdf hm => ?_) (fun dd lim B hp hdd hW hm hl1 hl2 hbA fB => ?_)
    · refine cp_r1 ?_
      refine ⟨cr_in (j := 1) (by omega) hL2, ?_⟩
      intro x4 h4
      rw [h4]
      refine ⟨cr_in (j := 2) (by omega) hL2, ?_⟩
      intro x5 h5
      rw [h5]
      refine ⟨cr_in (j := 3) (by omega) hL2, ?_⟩
      intro x6 h6
      rw [h6]
      refine ⟨fun hx => absurd hx hfl, fun _ => ?_⟩
      refine cs_run (d := d) (T := T) (W := T) (Or.inr ⟨rfl, rfl, rfl⟩) g8 g9 g6 (fun i _ => Iff.rfl) g14 hc (fun _ => cp_r1 ?_) (fun hx => absurd hx hdf) (fun dd lim T1 c2 hp hdd hW => absurd ⟨by rw [hp, cp_tI (by omega)]; omega, by rw [hp, cp_tI (by omega)]; omega, by rw [hp, cp_cl (by omega)]; exact fun hx => hW (((fun i _ => Iff.rfl) dd hdd).mp hx)⟩ hdf)
      refine cp_172 (cp_r1 ?_)
      rw [show (cm_wI S 83 75 1).1 83 75 = 1 from by rw [cp_wI1, if_pos ⟨rfl, rfl⟩]]
      refine ⟨fun _ => ⟨fun h0 => absurd h0 (by decide), fun _ => cx_300_1679 _ _ _ ?_⟩, fun h => absurd rfl h⟩
      simp only [dk_sh0]
      exact k _ c 1 _ _ (Nat.le_refl _) (by omega) (ref 1).1 (ref 1).2
    · refine cp_r1 ?_
      refine ⟨cr_in (j := 1) (by omega) hL2, ?_⟩
      intro x4 h4
      rw [h4]
      refine ⟨cr_in (j := 2) (by omega) hL2, ?_⟩
      intro x5 h5
      rw [h5]
      refine ⟨cr_in (j := 3) (by omega) hL2, ?_⟩
      intro x6 h6
      rw [h6]
      refine ⟨fun hx => absurd hx hfl, fun _ => ?_⟩
      refine cs_run (d := d) (T := T) (W := T) (Or.inr ⟨rfl, rfl, rfl⟩) g8 g9 g6 (fun i _ => Iff.rfl) g14 hc (fun hx => absurd hdf hx) (fun _ _ => cp_r1 ?_) (fun dd lim T1 c2 hp hdd hW hlm hl1 hl2 => absurd ⟨by rw [hlm, cp_tI (by omega)]; omega, by rw [hlm, cp_tI (by omega)]; omega⟩ hm)
      refine cp_172 (cp_r1 ?_)
      rw [show (cm_wI S 83 75 2).1 83 75 = 2 from by rw [cp_wI1, if_pos ⟨rfl, rfl⟩]]
      refine ⟨fun _ => ⟨fun h0 => absurd h0 (by decide), fun _ => cx_300_1679 _ _ _ ?_⟩, fun h => absurd rfl h⟩
      simp only [dk_sh0]
      exact k _ c 1 _ _ (Nat.le_refl _) (by omega) (ref 2).1 (ref 2).2
    · obtain ⟨T0, hT0⟩ := dw_ex (Or.inr ⟨rfl, rfl, rfl⟩) g8 g9 g6 (fun i _ => Iff.rfl) g14 hc hdd hW
      obtain ⟨o, A1, _, st0, wc0, sh0, c1, _, fA1, _, fi0, _, _, _⟩ := dw_loop (by omega) 20000 0 0 0 1 _ _ (dw_start (lim := lim) g9 hdd hW hbA hT0) (Nat.zero_le _) (Nat.le_refl _) (Nat.zero_le _) (by omega)
      have ho : o ≤ 5 := by
        obtain ⟨_, _, _, _, _, _, _, _, h5, _⟩ := fi0
        exact h5
      refine ⟨o, A1, c1, ?_⟩
      have fBs : cf_W (fun b _ => decide (57 ≤ b ∧ b ≤ 79)) B (dw_as dd lim B) := cf_tr (cf_wI (decide_eq_true (by omega))) (cf_tr (cf_mono de_ps_cf (fun b j h => decide_eq_true (by have h := of_decide_eq_true h; omega))) (cf_tr (cf_mono dw_nx_cf (fun b j h => decide_eq_true (by have h := of_decide_eq_true h; omega))) (cf_tr (cf_wI (decide_eq_true (by omega))) (cf_wI (decide_eq_true (by omega))))))
      have fSw : cf_W (fun b _ => decide (57 ≤ b ∧ b ≤ 79 ∨ b = 132)) S (cm_wJ A1 132 0 (Int32.ofNat o).toInt64) := cf_tr (cf_mono fB (fun b j h => decide_eq_true (by have h := of_decide_eq_true h; omega))) (cf_tr (cf_mono fBs (fun b j h => decide_eq_true (by have h := of_decide_eq_true h; omega))) (cf_tr (cf_mono fA1 (fun b j h => decide_eq_true (by have h := of_decide_eq_true h; omega))) (cf_wJ (decide_eq_true (by omega)))))
      have v132 : (cm_wJ A1 132 0 (Int32.ofNat o).toInt64).2 132 0 = (Int32.ofNat o).toInt64 := by rw [cp_wJ2, if_pos ⟨rfl, rfl⟩]
      have fAw : cf_W (fun b _ => decide (b = 132)) A1 (cm_wJ A1 132 0 (Int32.ofNat o).toInt64) := cf_wJ (decide_eq_true rfl)
      generalize cm_wJ A1 132 0 (Int32.ofNat o).toInt64 = Aw at fSw v132 fAw ⊢
      refine cp_r1 ?_
      refine ⟨cr_in (j := 1) (by omega) hL2, ?_⟩
      intro x4 h4
      rw [h4]
      refine ⟨cr_in (j := 2) (by omega) hL2, ?_⟩
      intro x5 h5
      rw [h5]
      refine ⟨cr_in (j := 3) (by omega) hL2, ?_⟩
      intro x6 h6
      rw [h6]
      refine ⟨fun hx => absurd hx hfl, fun _ => ?_⟩
      refine cs_run (S := Aw) (d := d) (T := T) (W := T) (Or.inr ⟨rfl, rfl, rfl⟩) (cl_i_cf fSw (fun j => decide_eq_false (by omega)) g8) g9 (cl_d_fr g9 fSw (fun j hj => decide_eq_false (by omega)) (fun b y q1 q2 q3 q4 => decide_eq_false (by omega)) g6) (fun i _ => Iff.rfl) (cl_cs_f fSw (decide_eq_false (by omega)) (fun j => decide_eq_false (by omega)) g14) hc (fun hx => absurd ⟨by rw [hp, cp_tI (by omega)]; omega, by rw [hp, cp_tI (by omega)]; omega, by rw [hp, cp_cl (by omega)]; exact fun hy => hW (((fun i _ => Iff.rfl) dd hdd).mp hy)⟩ hx) (fun _ hx => absurd ⟨by rw [hm, cp_tI (by omega)]; omega, by rw [hm, cp_tI (by omega)]; omega⟩ hx) (fun dd2 lim2 T1 c2 hp2 hdd2 hW2 hm2 hl3 hl4 hbS cs2 l1 l2 fT e75 => ?_)
      obtain rfl : dd = dd2 := (cp_inj (by omega) (by omega)).mp (hp.symm.trans hp2)
      obtain rfl : lim = lim2 := (cp_inj (by omega) (by omega)).mp (hm.symm.trans hm2)
      obtain ⟨A2, S2, st1, wc1, sh1, hh, c2m, f2, fi, l3, l4, l5⟩ := dw_both g9 hdd hW hl2 hbA hbS c1 ho
      refine ⟨o, S2, c2m, cp_r1 ?_⟩
      have fTs : cf_W dw_Wm T1 (dw_ss T dd lim T1) := cf_tr (cf_wI (decide_eq_true (by omega))) (cf_tr (cf_mono me_ws_cf (fun b j h => decide_eq_true (by have h := of_decide_eq_true h; omega))) (cf_tr (cf_mono dw_ev_cf (fun b j h => decide_eq_true (by have h := of_decide_eq_true h; omega))) (cf_tr (cf_wI (decide_eq_true (by omega))) (cf_wI (decide_eq_true (by omega))))))
      have e75b : (dw_ss T dd lim T1).1 83 75 = 0 := by
        unfold dw_ss dw_bs
        rw [cp_wI1, if_neg (by omega), cp_wI1, if_neg (by omega), (dw_ev_cf 83 75 (decide_eq_false (by omega))).1, (me_ws_cf 83 75 (decide_eq_false (by omega))).1, cp_wI1, if_neg (by omega)]
        exact e75
      have e41 : (dw_ss T dd lim T1).1 83 41 = 1 := by
        unfold dw_ss dw_bs
        rw [cp_wI1, if_neg (by omega), cp_wI1, if_neg (by omega), (dw_ev_cf 83 41 (decide_eq_false (by omega))).1, (me_ws_cf 83 41 (decide_eq_false (by omega))).1, cp_wI1, if_neg (by omega)]
        exact hbS.1
      have cs3 : cl_cs (dw_ss T dd lim T1) c2 := by
        have f5 : cf_W (fun b j => decide (114 ≤ b ∧ b ≤ 127 ∨ b = 83 ∧ 40 ≤ j ∧ j ≤ 65)) T1 (dw_ss T dd lim T1) := cf_tr (cf_wI (decide_eq_true (by omega))) (cf_tr (cf_mono me_ws_cf (fun b j h => decide_eq_true (by have h := of_decide_eq_true h; omega))) (cf_tr (cf_mono dw_ev_cf (fun b j h => decide_eq_true (by have h := of_decide_eq_true h; omega))) (cf_tr (cf_wI (decide_eq_true (by omega))) (cf_wI (decide_eq_true (by omega))))))
        exact cl_cs_f f5 (decide_eq_false (by omega)) (fun j => decide_eq_false (by omega)) cs2
      have fAS : cf_W (fun b j => decide (92 ≤ b ∧ b ≤ 98 ∧ 2400 ≤ j ∧ j < 3600 ∨ b = 83 ∧ (j = 17 ∨ j = 19 ∨ j = 20 ∨ j = 23 ∨ 40 ≤ j ∧ j ≤ 75) ∨ b = 100 ∨ b = 101 ∨ 114 ≤ b ∧ b ≤ 129)) Aw S2 := cf_tr fT (cf_tr fTs (cf_mono f2 (fun b j h => decide_eq_true (by have h := of_decide_eq_true h; omega))))
      have hh2 : cm_h S2 0 cm_T = cm_h (dw_mix A2 S2) 0 cm_T := dw_mix_h (W := fun b j => decide (b = 132 ∨ 92 ≤ b ∧ b ≤ 98 ∨ b = 83 ∨ b = 100 ∨ b = 101 ∨ 114 ≤ b ∧ b ≤ 129)) hh (cf_tr (cf_mono fAw (fun b j h => decide_eq_true (by have h := of_decide_eq_true h; omega))) (cf_mono fAS (fun b j h => decide_eq_true (by have h := of_decide_eq_true h; omega)))) (fun b j q1 q2 => decide_eq_false (by omega))
      have fS3 : cf_W (fun b j => decide (57 ≤ b ∧ b ≤ 79 ∨ b = 132 ∨ 92 ≤ b ∧ b ≤ 98 ∧ 2400 ≤ j ∧ j < 3600 ∨ b = 83 ∧ (j = 17 ∨ j = 19 ∨ j = 20 ∨ j = 23 ∨ 40 ≤ j ∧ j ≤ 75) ∨ b = 100 ∨ b = 101 ∨ 114 ≤ b ∧ b ≤ 129)) S (dw_mix A2 S2) := cf_tr (cf_mono fSw (fun b j h => decide_eq_true (by have h := of_decide_eq_true h; omega))) (cf_tr (cf_mono fAS (fun b j h => decide_eq_true (by have h := of_decide_eq_true h; omega))) (cf_mono dw_mix_S (fun b j h => decide_eq_true (by have h := of_decide_eq_true h; omega))))
      have csM : cl_cs (dw_mix A2 S2) c2 := cl_cs_f dw_mix_S (decide_eq_false (by omega)) (fun j => decide_eq_false (by omega)) (cl_cs_f f2 (decide_eq_false (by omega)) (fun j => decide_eq_false (by omega)) cs3)
      have hbM : cr_b N T U R c2 (dw_mix A2 S2) := cr_b_f3 fS3 (fun b j h => by have h := of_decide_eq_true h; omega) csM hb
      have hmM : cr_mr (dw_mix A2 S2) := Or.inr ⟨(dw_mix_S 83 41 (decide_eq_false (by omega))).1.trans ((f2 83 41 (decide_eq_false (by omega))).1.trans e41), T, st1, lim, wc1, sh1, dd, o, dw_fin_cf dw_mix_A dw_mix_S (fun b j hx => decide_eq_false (by omega)) (fun b j hx => decide_eq_false (by omega)) fi, l3, by omega, l4, l5⟩
      refine cp_172 (cp_r1 ?_)
      rw [(f2 83 75 (decide_eq_false (by omega))).1, e75b]
      refine ⟨fun _ => ⟨fun _ => ⟨cp_in (i := 0) (by decide) (by decide), ?_⟩, fun h => absurd rfl h⟩, fun h => absurd rfl h⟩
      intro x7 h7
      rw [h7, show (0 : Int32).toNatClampNeg = 0 from rfl, (fAS 132 0 (decide_eq_false (by omega))).2, v132]
      refine ⟨fun _ => cx_300_1679 _ _ _ ?_, fun h => absurd (cu_lg.mpr rfl) h⟩
      simp only [dk_sh0]
      have hk := k (dw_mix A2 S2) c2 0 0 (Int32.ofNat o) (Nat.zero_le _) l2 hbM hmM
      rw [dk_sh0] at hk
      exact cm_At_h hh2 hk
end CPa39b
