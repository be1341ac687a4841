/-! ## 69 the law's cases of core and rule -/
section CP69
variable {L : Nat} {xs : Nat → Int32} {d : Nat} {N : List ct_E} {T U : Nat → ct_T} {R : List (Int32 × Int32 × Int32 × Int32)} {c n : Nat} {S : cm_S} {K : cm_K} {o5 o6 : Option Value}
theorem cr_core (hb : cr_b N T U R c S) (hL : n + 5 ≤ L) (hL2 : L < 2147483648) (k : ∀ S2 e p5 p6, e ≤ 1 → cr_b N T U R c S2 → cf_W (fun b j => decide (b = 132 ∨ b = 100 ∨ b = 83 ∧ (j = 20 ∨ j = 70 ∨ j = 75))) S S2 → cm_At (am_XX L xs) (d + 154) 300 1907 [some (.ref 1000000), some (.ref 0), some (.ref 83), some (.ref 132), some (.int (Int32.ofNat n)), p5, p6, none] [] S2 (cm_sh K e)) :
    cm_At (am_XX L xs) (d + 154) 300 1325 [some (.ref 1000000), some (.ref 0), some (.ref 83), some (.ref 132), some (.int (Int32.ofNat n)), o5, o6, none] [] S K := by
  obtain ⟨g1, g2, g3, g4, g5, g6, g7, g8, g9, g10, g11, g12, g13, g14⟩ := id hb
  have hwf := cr_wf g9 g10 g11
  refine cx_300_1325 _ _ _ ?_
  refine ⟨cr_in (j := 1) (by omega) hL2, ?_⟩
  rintro _ rfl
  refine cq_core (d := d + 148) g4 g5 hwf (fun i S2 hi hp hu v2 f2 => cp_r1 ?_) (fun hdf => cp_r1 ?_)
  · have f2w : cf_W (fun b j => decide (b = 132 ∨ b = 100 ∨ b = 83 ∧ (j = 20 ∨ j = 70 ∨ j = 75))) S S2 := cf_mono f2 (fun b j h => decide_eq_true (by have h := of_decide_eq_true h; omega))
    refine ⟨cr_in (j := 1) (by omega) hL2, ?_⟩
    rintro _ rfl
    refine cs_core (d := d) (cl_d_fr g10 f2w (fun j hj => decide_eq_false (by omega)) (fun b x q1 q2 q3 q4 => decide_eq_false (by omega)) g7) (cl_i_cf f2w (fun j => decide_eq_false (by omega)) g8) hwf g10 (fun i2 S3 hi2 hp2 hu2 r75 f3 => cp_r2 ?_) (fun hdf => absurd ?_ hdf)
    · have hii : i2 = i := (cp_inj (by omega) (by omega)).mp (hp2.symm.trans hp)
      subst hii
      have f3w : cf_W (fun b j => decide (b = 132 ∨ b = 100 ∨ b = 83 ∧ (j = 20 ∨ j = 70 ∨ j = 75))) S S3 := cf_tr f2w (cf_mono f3 (fun b j h => decide_eq_true (by have h := of_decide_eq_true h; omega)))
      refine cp_172 (d := d + 152) (cp_r1 ?_)
      rw [r75]
      refine ⟨fun _ => ⟨fun h0 => ⟨cp_in (i := 0) (by decide) (by decide), ?_⟩, fun h0 => absurd rfl h0⟩, fun h => absurd rfl h⟩
      rintro _ rfl
      have hv : S3.2 132 0 = ct_pr 9 (ct_fl (U i2)) := by rw [(f3 132 0 (decide_eq_false (by omega))).2]; exact v2
      refine ⟨fun _ => cx_300_1377 _ _ _ (cp_shz (cp_shz (k _ 0 _ _ (by omega) (cr_b_fr (cf_mono f3w (fun b j h => decide_eq_true (by have h := of_decide_eq_true h; omega))) hb) f3w))), fun h => absurd ?_ h⟩
      show lg_cmp (S3.2 132 0) _ = 0
      rw [hv]
      unfold lg_cmp
      exact (if_neg (by simp)).trans (if_pos rfl)
    · rw [hp]
      exact cr_df hi (fun hc => hu ((g11 i hi).mp hc))
  · refine ⟨cr_in (j := 1) (by omega) hL2, ?_⟩
    rintro _ rfl
    refine cs_core (d := d) g7 g8 hwf g10 (fun i2 S3 hi2 hp2 hu2 _ _ => absurd (by rw [hp2]; exact cr_df hi2 (fun hc => hu2 ((g11 i2 hi2).mp hc))) hdf) (fun _ => cp_r2 ?_)
    have r75 : (cm_wI S 83 75 1).1 83 75 = 1 := by rw [cp_wI1, if_pos ⟨rfl, rfl⟩]
    have f3w : cf_W (fun b j => decide (b = 132 ∨ b = 100 ∨ b = 83 ∧ (j = 20 ∨ j = 70 ∨ j = 75))) S (cm_wI S 83 75 1) := cf_wI (decide_eq_true (by omega))
    refine cp_172 (d := d + 152) (cp_r1 ?_)
    rw [r75]
    exact ⟨fun _ => ⟨fun h0 => absurd h0 (by decide), fun _ => cx_300_1377 _ _ _ (cp_shz (cp_shz (k _ 1 _ _ (Nat.le_refl _) (cr_b_fr (cf_mono f3w (fun b j h => decide_eq_true (by have h := of_decide_eq_true h; omega))) hb) f3w)))⟩, fun h => absurd rfl h⟩
theorem cr_rule (hb : cr_b N T U R c S) (hL : n + 5 ≤ L) (hL2 : L < 2147483648) (k : ∀ S2 R2 e q5 q6, e ≤ 1 → cr_b N T U R2 c S2 → cf_W (fun b j => decide (b = 37 ∧ j = 6 ∨ b = 56 ∨ b = 132 ∨ b = 83 ∧ (j = 26 ∨ j = 75) ∨ 104 ≤ b ∧ b ≤ 107)) S S2 → cm_At (am_XX L xs) (d + 5) 300 1907 [some (.ref 1000000), some (.ref 0), some (.ref 83), some (.ref 132), some (.int (Int32.ofNat n)), some (.int q5), some (.int q6), none] [] S2 (cm_sh K e)) :
    cm_At (am_XX L xs) (d + 5) 300 1108 [some (.ref 1000000), some (.ref 0), some (.ref 83), some (.ref 132), some (.int (Int32.ofNat n)), o5, o6, none] [] S K := by
  obtain ⟨g1, g2, g3, g4, g5, g6, g7, g8, g9, g10, g11, g12, g13, g14⟩ := id hb
  refine cx_300_1108 _ _ _ ?_
  refine ⟨cr_in (j := 1) (by omega) hL2, ?_⟩
  rintro _ rfl
  refine ⟨cr_in (j := 2) (by omega) hL2, ?_⟩
  rintro _ rfl
  refine ⟨cr_in (j := 3) (by omega) hL2, ?_⟩
  rintro _ rfl
  refine ⟨cr_in (j := 4) (by omega) hL2, ?_⟩
  rintro _ rfl
  refine cq_rule (d := d) g12 (fun S2 hok hlt r2 v2 f2 => cp_r1 ?_) (fun hok => cp_r1 ?_) (fun hok hlt => cp_r1 ?_)
  · refine ⟨cr_in (j := 1) (by omega) hL2, ?_⟩
    rintro _ rfl
    refine ⟨cr_in (j := 2) (by omega) hL2, ?_⟩
    rintro _ rfl
    refine ⟨cr_in (j := 3) (by omega) hL2, ?_⟩
    rintro _ rfl
    refine ⟨cr_in (j := 4) (by omega) hL2, ?_⟩
    rintro _ rfl
    refine cs_rule (d := d + 1) (cl_r_cf f2 (decide_eq_false (by omega)) (fun b j q1 q2 => decide_eq_false (by omega)) g13) (fun S3 _ _ r3 r75 f3 => cp_r1 ?_) (fun hc => absurd hok hc) (fun _ hc => absurd hlt hc)
    refine cp_172 (d := d + 3) (cp_r1 ?_)
    rw [r75]
    refine ⟨fun _ => ⟨fun h0 => ⟨cp_in (i := 0) (by decide) (by decide), ?_⟩, fun h0 => absurd rfl h0⟩, fun h => absurd rfl h⟩
    rintro _ rfl
    have hv : S3.2 132 0 = (Int32.ofNat (R.length + 1)).toInt64 := by rw [(f3 132 0 (decide_eq_false (by omega))).2]; exact v2
    have hf : cf_W (fun b j => decide (b = 37 ∧ j = 6 ∨ b = 56 ∨ b = 132 ∨ b = 83 ∧ (j = 26 ∨ j = 75) ∨ 104 ≤ b ∧ b ≤ 107)) S S3 := cf_tr (cf_mono f2 (fun b j h => decide_eq_true (by have h := of_decide_eq_true h; omega))) (cf_mono f3 (fun b j h => decide_eq_true (by have h := of_decide_eq_true h; omega)))
    have hb3 := (⟨g1, ck_n_cf hf (fun b j q1 q2 => decide_eq_false (by omega)) g2, cl_n_f hf (decide_eq_false (by omega)) (fun b j q1 q2 => decide_eq_false (by omega)) g3, ck_d_fr hf (fun b j q1 q2 => decide_eq_false (by omega)) g4, ck_d_fr hf (fun b j q1 q2 => decide_eq_false (by omega)) g5, cl_d_fr g9 hf (fun j hj => decide_eq_false (by omega)) (fun b x q1 q2 q3 q4 => decide_eq_false (by omega)) g6, cl_d_fr g10 hf (fun j hj => decide_eq_false (by omega)) (fun b x q1 q2 q3 q4 => decide_eq_false (by omega)) g7, cl_i_cf hf (fun j => decide_eq_false (by omega)) g8, g9, g10, g11, ck_r_cf f3 (decide_eq_false (by omega)) (fun j => decide_eq_false (by omega)) r2, r3, cl_cs_f hf (decide_eq_false (by omega)) (fun j => decide_eq_false (by omega)) g14⟩ : cr_b N T U _ c S3)
    refine ⟨fun _ => cx_300_1197 _ _ _ (cp_shz (cp_shz (k S3 _ 0 _ _ (by omega) hb3 hf))), fun h => absurd ?_ h⟩
    show lg_cmp (S3.2 132 0) _ = 0
    rw [hv]
    unfold lg_cmp
    exact (if_neg (by simp)).trans (if_pos rfl)
  · refine ⟨cr_in (j := 1) (by omega) hL2, ?_⟩
    rintro _ rfl
    refine ⟨cr_in (j := 2) (by omega) hL2, ?_⟩
    rintro _ rfl
    refine ⟨cr_in (j := 3) (by omega) hL2, ?_⟩
    rintro _ rfl
    refine ⟨cr_in (j := 4) (by omega) hL2, ?_⟩
    rintro _ rfl
    refine cs_rule (d := d + 1) g13 (fun S3 hc _ _ _ _ => absurd hc hok) (fun _ => cp_r1 ?_) (fun hc _ => absurd hc hok)
    have r75 : (cm_wI S 83 75 1).1 83 75 = 1 := by rw [cp_wI1, if_pos ⟨rfl, rfl⟩]
    have f3w : cf_W (fun b j => decide (b = 37 ∧ j = 6 ∨ b = 56 ∨ b = 132 ∨ b = 83 ∧ (j = 26 ∨ j = 75) ∨ 104 ≤ b ∧ b ≤ 107)) S (cm_wI S 83 75 1) := cf_wI (decide_eq_true (by omega))
    refine cp_172 (d := d + 3) (cp_r1 ?_)
    rw [r75]
    exact ⟨fun _ => ⟨fun h0 => absurd h0 (by decide), fun _ => cx_300_1197 _ _ _ (cp_shz (cp_shz (k _ R 1 _ _ (Nat.le_refl _) (cr_b_fr (cf_wI (decide_eq_true (by omega))) hb) f3w)))⟩, fun h => absurd rfl h⟩
  · refine ⟨cr_in (j := 1) (by omega) hL2, ?_⟩
    rintro _ rfl
    refine ⟨cr_in (j := 2) (by omega) hL2, ?_⟩
    rintro _ rfl
    refine ⟨cr_in (j := 3) (by omega) hL2, ?_⟩
    rintro _ rfl
    refine ⟨cr_in (j := 4) (by omega) hL2, ?_⟩
    rintro _ rfl
    refine cs_rule (d := d + 1) g13 (fun S3 _ hc _ _ _ => absurd hc hlt) (fun hc => absurd hok hc) (fun _ _ => cp_r1 ?_)
    have r75 : (cm_wI S 83 75 2).1 83 75 = 2 := by rw [cp_wI1, if_pos ⟨rfl, rfl⟩]
    have f3w : cf_W (fun b j => decide (b = 37 ∧ j = 6 ∨ b = 56 ∨ b = 132 ∨ b = 83 ∧ (j = 26 ∨ j = 75) ∨ 104 ≤ b ∧ b ≤ 107)) S (cm_wI S 83 75 2) := cf_wI (decide_eq_true (by omega))
    refine cp_172 (d := d + 3) (cp_r1 ?_)
    rw [r75]
    exact ⟨fun _ => ⟨fun h0 => absurd h0 (by decide), fun _ => cx_300_1197 _ _ _ (cp_shz (cp_shz (k _ R 1 _ _ (Nat.le_refl _) (cr_b_fr (cf_wI (decide_eq_true (by omega))) hb) f3w)))⟩, fun h => absurd rfl h⟩
end CP69
