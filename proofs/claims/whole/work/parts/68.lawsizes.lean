/-! ## 68 the law's cases of size, rule, reset -/
theorem cr_wf {T U : Nat → ct_T} (hT : ct_ds T) (hU : ct_ds U) (h : ∀ i, i < 8 → (T i = .leaf ↔ U i = .leaf)) : ∀ i, i < 8 → ct_wf (T i) ∧ ct_wf (U i) ∧ (T i = .leaf ↔ U i = .leaf) := fun i hi => by
  refine ⟨?_, ?_, h i hi⟩
  · by_cases hl : T i = .leaf
    · rw [hl]; trivial
    · exact (hT i hi hl).1.1
  · by_cases hl : U i = .leaf
    · rw [hl]; trivial
    · exact (hU i hi hl).1.1
theorem cr_df {T : Nat → ct_T} {i : Nat} (hi : i < 8) (h : ¬ T i = .leaf) : ct_df T (Int32.ofNat i) := by
  unfold ct_df
  rw [cp_tI (by omega), cp_cl (by omega)]
  exact ⟨by omega, by omega, h⟩
section CP68
variable {L : Nat} {xs : Nat → Int32} {d : Nat} {N : List ct_E} {T U : Nat → ct_T} {R : List (Int32 × Int32 × Int32 × Int32)} {c n : Nat} {S : cm_S} {K : cm_K} {o5 o6 : Option Value}
theorem cr_size (hb : cr_b N T U R c S) (hL : n + 5 ≤ L) (hL2 : L < 2147483648) (k : ∀ S2 e q5 q6, e ≤ 1 → cr_b N T U R c S2 → cf_W (fun b j => decide (b = 132 ∨ b = 83 ∧ j = 75)) S S2 → cm_At (am_XX L xs) (d + 153) 300 1907 [some (.ref 1000000), some (.ref 0), some (.ref 83), some (.ref 132), some (.int (Int32.ofNat n)), some (.int q5), some (.int q6), none] [] S2 (cm_sh K e)) :
    cm_At (am_XX L xs) (d + 153) 300 1269 [some (.ref 1000000), some (.ref 0), some (.ref 83), some (.ref 132), some (.int (Int32.ofNat n)), o5, o6, none] [] S K := by
  obtain ⟨g1, g2, g3, g4, g5, g6, g7, g8, g9, g10, g11, g12, g13, g14⟩ := id hb
  have hwf := cr_wf g9 g10 g11
  refine cx_300_1269 _ _ _ ?_
  refine ⟨cr_in (j := 1) (by omega) hL2, ?_⟩
  rintro _ rfl
  refine cq_size (d := d + 147) g4 g5 hwf (fun i S2 hi hp hu v2 f2 => cp_r1 ?_) (fun hdf => cp_r1 ?_)
  · have f2w : cf_W (fun b j => decide (b = 132 ∨ b = 83 ∧ j = 75)) S S2 := cf_mono f2 (fun b j h => decide_eq_true (by have h := of_decide_eq_true h; omega))
    refine ⟨cr_in (j := 1) (by omega) hL2, ?_⟩
    rintro _ rfl
    refine cs_size (d := d) (cl_d_fr g10 f2w (fun j hj => decide_eq_false (by omega)) (fun b x q1 q2 q3 q4 => decide_eq_false (by omega)) g7) (cl_i_cf f2w (fun j => decide_eq_false (by omega)) g8) hwf g10 (fun i2 hi2 hp2 hu2 => cp_r1 ?_) (fun hdf => absurd ?_ hdf)
    · have hii : i2 = i := (cp_inj (by omega) (by omega)).mp (hp2.symm.trans hp)
      subst hii
      have r75 : (cm_wI S2 83 75 0).1 83 75 = 0 := by rw [cp_wI1, if_pos ⟨rfl, rfl⟩]
      have f3w : cf_W (fun b j => decide (b = 132 ∨ b = 83 ∧ j = 75)) S (cm_wI S2 83 75 0) := cf_tr f2w (cf_wI (decide_eq_true (by omega)))
      refine cp_172 (d := d + 151) (cp_r1 ?_)
      rw [r75]
      refine ⟨fun _ => ⟨fun h0 => ⟨cp_in (i := 0) (by decide) (by decide), ?_⟩, fun h0 => absurd rfl h0⟩, fun h => absurd rfl h⟩
      rintro _ rfl
      refine ⟨fun _ => cx_300_1322 _ _ _ (cp_shz (cp_shz (k _ 0 _ _ (by omega) (cr_b_fr (cf_mono f3w (fun b j h => decide_eq_true (by have h := of_decide_eq_true h; omega))) hb) f3w))), fun h => absurd ?_ h⟩
      show lg_cmp (S2.2 132 0) _ = 0
      rw [v2]
      unfold lg_cmp
      exact (if_neg (by simp)).trans (if_pos rfl)
    · rw [hp]
      exact cr_df hi (fun hc => hu ((g11 i hi).mp hc))
  · refine ⟨cr_in (j := 1) (by omega) hL2, ?_⟩
    rintro _ rfl
    refine cs_size (d := d) g7 g8 hwf g10 (fun i2 hi2 hp2 hu2 => absurd (by rw [hp2]; exact cr_df hi2 (fun hc => hu2 ((g11 i2 hi2).mp hc))) hdf) (fun _ => cp_r1 ?_)
    have r75 : (cm_wI S 83 75 1).1 83 75 = 1 := by rw [cp_wI1, if_pos ⟨rfl, rfl⟩]
    have f3w : cf_W (fun b j => decide (b = 132 ∨ b = 83 ∧ j = 75)) S (cm_wI S 83 75 1) := cf_wI (decide_eq_true (by omega))
    refine cp_172 (d := d + 151) (cp_r1 ?_)
    rw [r75]
    exact ⟨fun _ => ⟨fun h0 => absurd h0 (by decide), fun _ => cx_300_1322 _ _ _ (cp_shz (cp_shz (k _ 1 _ _ (Nat.le_refl _) (cr_b_fr (cf_mono f3w (fun b j h => decide_eq_true (by have h := of_decide_eq_true h; omega))) hb) f3w)))⟩, fun h => absurd rfl h⟩
theorem cr_reset (hb : cr_b N T U R c S) (hcc : c < 2000000000) (k : ∀ S2 c2, c2 ≤ c + 8 → cr_b N T T R c2 S2 → cf_W cW_de S S2 → cm_At (am_XX L xs) (d + 156) 300 1907 [some (.ref 1000000), some (.ref 0), some (.ref 83), some (.ref 132), some (.int (Int32.ofNat n)), o5, o6, none] [] S2 K) :
    cm_At (am_XX L xs) (d + 156) 300 1256 [some (.ref 1000000), some (.ref 0), some (.ref 83), some (.ref 132), some (.int (Int32.ofNat n)), o5, o6, none] [] S K := by
  obtain ⟨g1, g2, g3, g4, g5, g6, g7, g8, g9, g10, g11, g12, g13, g14⟩ := id hb
  have hwf := cr_wf g9 g10 g11
  refine cx_300_1256 _ _ _ ?_
  refine cq_reset (d := d + 151) g4 g5 hwf (ct_d8 g9) (fun S2 d2 f2 => cp_r1 ?_)
  refine cs_reset (d := d) (cl_d_fr g9 f2 (fun j hj => decide_eq_false (by omega)) (fun b x q1 q2 q3 q4 => decide_eq_false (by omega)) g6) (cl_i_cf f2 (fun j => decide_eq_false (by omega)) g8) g9 (cl_cs_f f2 (decide_eq_false (by omega)) (fun j => decide_eq_false (by omega)) g14) hcc (fun S3 c2 e2 r75 hc2 cs3 f3 => cp_r1 ?_)
  have f3w : cf_W (fun b j => decide (92 ≤ b ∧ b ≤ 98 ∧ 1200 ≤ j ∧ j < 2400 ∨ b = 83 ∧ (j = 17 ∨ j = 19 ∨ j = 20 ∨ j = 23 ∨ j = 75) ∨ 100 ≤ b ∧ b ≤ 101 ∨ b = 103 ∧ 8 ≤ j ∧ j < 16)) S2 S3 := cf_mono f3 (fun b j h => decide_eq_true (by
    rcases Bool.or_eq_true_iff.mp h with h | h
    · have h := of_decide_eq_true h; omega
    · have h := of_decide_eq_true h; omega))
  have d1 : ck_d S3 21 T := ck_d_fr f3w (fun b j q1 q2 => decide_eq_false (by omega)) (ck_d_fr f2 (fun b j q1 q2 => decide_eq_false (by omega)) g4)
  have hb3 : cr_b N T T R c2 S3 := ⟨g1, ck_n_cf f3w (fun b j q1 q2 => decide_eq_false (by omega)) (ck_n_cf f2 (fun b j q1 q2 => decide_eq_false (by omega)) g2), cl_n_f f3w (decide_eq_false (by omega)) (fun b j q1 q2 => decide_eq_false (by omega)) (cl_n_f f2 (decide_eq_false (by omega)) (fun b j q1 q2 => decide_eq_false (by omega)) g3), d1, ck_d_fr f3w (fun b j q1 q2 => decide_eq_false (by omega)) d2, cl_d_fr g9 f3w (fun j hj => decide_eq_false (by omega)) (fun b x q1 q2 q3 q4 => decide_eq_false (by omega)) (cl_d_fr g9 f2 (fun j hj => decide_eq_false (by omega)) (fun b x q1 q2 q3 q4 => decide_eq_false (by omega)) g6), e2, cl_i_cf f3w (fun j => decide_eq_false (by omega)) (cl_i_cf f2 (fun j => decide_eq_false (by omega)) g8), g9, g9, fun _ _ => Iff.rfl, ck_r_cf f3w (decide_eq_false (by omega)) (fun j => decide_eq_false (by omega)) (ck_r_cf f2 (decide_eq_false (by omega)) (fun j => decide_eq_false (by omega)) g12), cl_r_cf f3w (decide_eq_false (by omega)) (fun b j q1 q2 => decide_eq_false (by omega)) (cl_r_cf f2 (decide_eq_false (by omega)) (fun b j q1 q2 => decide_eq_false (by omega)) g13), cs3⟩
  exact ⟨fun _ => cp_shz (cp_shz (k S3 c2 hc2 hb3 (cf_tr (cf_mono f2 (fun b j h => decide_eq_true (by have h := of_decide_eq_true h; omega))) (cf_mono f3w (fun b j h => decide_eq_true (by have h := of_decide_eq_true h; omega)))))), fun h => absurd rfl h⟩
end CP68
