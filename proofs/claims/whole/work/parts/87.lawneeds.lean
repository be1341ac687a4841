/-! ## 87 the law's cases of parameters, needs, isAbsent -/
def cW_nee (b j : Nat) : Bool := decide (33 ≤ b ∧ b ≤ 36 ∨ 108 ≤ b ∧ b ≤ 112 ∨ b = 132 ∨ b = 83 ∧ j = 75)
theorem cW_nee_1 {b j : Nat} (h : cW_on b j = true) : cW_nee b j = true := by
  unfold cW_on cW_dd cW_o at h
  simp only [Bool.or_eq_true, decide_eq_true_eq] at h
  exact decide_eq_true (by omega)
theorem cW_nee_0 {b j : Nat} (h : cW_o b j = true) : cW_nee b j = true := by
  unfold cW_o at h
  simp only [decide_eq_true_eq] at h
  exact decide_eq_true (by omega)
theorem cW_nee_2 {b j : Nat} (h : cW_fj b j = true) : cW_nee b j = true := by
  unfold cW_fj cW_fi at h
  simp only [Bool.or_eq_true, decide_eq_true_eq] at h
  exact decide_eq_true (by omega)
section CP87
variable {L : Nat} {xs : Nat → Int32} {d : Nat} {N : List ct_E} {T U : Nat → ct_T} {R : List (Int32 × Int32 × Int32 × Int32)} {c n : Nat} {S : cm_S} {K : cm_K} {o5 o6 : Option Value}
theorem cr_b_f2 {W : Nat → Nat → Bool} {S3 : cm_S} (hf : cf_W W S S3) (hw : ∀ b j, W b j = true → 9 ≤ b ∧ b ≤ 20 ∨ 33 ≤ b ∧ b ≤ 36 ∨ 38 ≤ b ∧ b ≤ 55 ∨ b = 37 ∧ ¬ j = 6 ∨ 57 ≤ b ∧ b ≤ 82 ∨ b = 91 ∨ 92 ≤ b ∧ b ≤ 98 ∧ 2400 ≤ j ∨ b = 99 ∨ b = 83 ∧ ¬ (j = 0 ∨ j = 23 ∨ j = 26) ∨ b = 100 ∨ b = 103 ∧ 16 ≤ j ∨ 108 ≤ b) (h : cr_b N T U R c S) : cr_b N T U R c S3 := by
  obtain ⟨g1, g2, g3, g4, g5, g6, g7, g8, g9, g10, g11, g12, g13, g14⟩ := h
  have no : ∀ b j, ¬ (9 ≤ b ∧ b ≤ 20 ∨ 33 ≤ b ∧ b ≤ 36 ∨ 38 ≤ b ∧ b ≤ 55 ∨ b = 37 ∧ ¬ j = 6 ∨ 57 ≤ b ∧ b ≤ 82 ∨ b = 91 ∨ 92 ≤ b ∧ b ≤ 98 ∧ 2400 ≤ j ∨ b = 99 ∨ b = 83 ∧ ¬ (j = 0 ∨ j = 23 ∨ j = 26) ∨ b = 100 ∨ b = 103 ∧ 16 ≤ j ∨ 108 ≤ b) → W b j = false := fun b j hn => by
    cases hc : W b j with
    | false => rfl
    | true => exact absurd (hw b j hc) hn
  exact ⟨g1, ck_n_cf hf (fun b j q1 q2 => no _ _ (by omega)) g2, cl_n_f hf (no _ _ (by omega)) (fun b j q1 q2 => no _ _ (by omega)) g3, ck_d_fr hf (fun b j q1 q2 => no _ _ (by omega)) g4, ck_d_fr hf (fun b j q1 q2 => no _ _ (by omega)) g5, cl_d_fr g9 hf (fun j hj => no _ _ (by omega)) (fun b x q1 q2 q3 q4 => no _ _ (by omega)) g6, cl_d_fr g10 hf (fun j hj => no _ _ (by omega)) (fun b x q1 q2 q3 q4 => no _ _ (by omega)) g7, cl_i_cf hf (fun j => no _ _ (by omega)) g8, g9, g10, g11, ck_r_cf hf (no _ _ (by omega)) (fun j => no _ _ (by omega)) g12, cl_r_cf hf (no _ _ (by omega)) (fun b j q1 q2 => no _ _ (by omega)) g13, cl_cs_f hf (no _ _ (by omega)) (fun j => no _ _ (by omega)) g14⟩
theorem cr_b_nee {S3 : cm_S} (hf : cf_W cW_nee S S3) (h : cr_b N T U R c S) : cr_b N T U R c S3 := cr_b_f2 hf (fun b j h => by have h := of_decide_eq_true h; omega) h
theorem cr_parameters (hb : cr_b N T U R c S) (hL : n + 5 ≤ L) (hL2 : L < 2147483648) (k : ∀ S2 e q5 q6, e ≤ 1 → cr_b N T U R c S2 → cf_W cW_nee S S2 → cm_At (am_XX L xs) (d + 458) 300 1907 [some (.ref 1000000), some (.ref 0), some (.ref 83), some (.ref 132), some (.int (Int32.ofNat n)), some (.int q5), some (.int q6), none] [] S2 (cm_sh K e)) :
    cm_At (am_XX L xs) (d + 458) 300 1380 [some (.ref 1000000), some (.ref 0), some (.ref 83), some (.ref 132), some (.int (Int32.ofNat n)), o5, o6, none] [] S K := by
  obtain ⟨g1, g2, g3, g4, g5, g6, g7, g8, g9, g10, g11, g12, g13, g14⟩ := id hb
  have hwf := cr_wf g9 g10 g11
  refine cx_300_1380 _ _ _ ?_
  refine ⟨cr_in (j := 1) (by omega) hL2, ?_⟩
  rintro _ rfl
  refine cq_parameters (d := d + 452) g4 g5 hwf (fun i S2 hi hp ht v2 f2 => cp_r1 ?_) (fun hdf => cp_r1 ?_)
  · have f2w : cf_W cW_nee S S2 := cf_mono f2 (fun b j h => cW_nee_0 h)
    refine ⟨cr_in (j := 1) (by omega) hL2, ?_⟩
    rintro _ rfl
    refine cs_parameters (d := d + 1) (cr_b_nee f2w hb) (fun i2 S3 hi2 hp2 ht2 r75 f3 => cp_r1 ?_) (fun hdf => absurd ?_ hdf)
    · have hii : i2 = i := (cp_inj (by omega) (by omega)).mp (hp2.symm.trans hp)
      subst hii
      have f3w : cf_W cW_nee S S3 := cf_tr f2w (cf_mono f3 (fun b j h => cW_nee_2 h))
      refine cp_172 (d := d + 456) (cp_r1 ?_)
      rw [r75]
      refine ⟨fun _ => ⟨fun h0 => ⟨cp_in (i := 0) (by decide) (by decide), ?_⟩, fun h0 => absurd rfl h0⟩, fun h => absurd rfl h⟩
      rintro _ rfl
      have hv : S3.2 132 0 = (Int32.ofNat (cu_M U i2)).toInt64 := by rw [(f3 132 0 (by decide)).2]; exact v2
      refine ⟨fun _ => cx_300_1433 _ _ _ (cp_shz (cp_shz (k S3 0 _ _ (by omega) (cr_b_nee f3w hb) f3w))), fun h => absurd ?_ h⟩
      show lg_cmp (S3.2 132 0) _ = 0
      rw [hv]
      exact cu_lg.mpr rfl
    · rw [hp]
      exact cr_df hi ht
  · refine ⟨cr_in (j := 1) (by omega) hL2, ?_⟩
    rintro _ rfl
    refine cs_parameters (d := d + 1) hb (fun i2 S3 hi2 hp2 ht2 _ _ => absurd (by rw [hp2]; exact cr_df hi2 ht2) hdf) (fun _ => cp_r1 ?_)
    have r75 : (cm_wI S 83 75 1).1 83 75 = 1 := by rw [cp_wI1, if_pos ⟨rfl, rfl⟩]
    have f3w : cf_W cW_nee S (cm_wI S 83 75 1) := cf_wI (by decide)
    refine cp_172 (d := d + 456) (cp_r1 ?_)
    rw [r75]
    exact ⟨fun _ => ⟨fun h0 => absurd h0 (by decide), fun _ => cx_300_1433 _ _ _ (cp_shz (cp_shz (k _ 1 _ _ (Nat.le_refl _) (cr_b_nee f3w hb) f3w)))⟩, fun h => absurd rfl h⟩
theorem cr_needs (hb : cr_b N T U R c S) (hL : n + 5 ≤ L) (hL2 : L < 2147483648) (k : ∀ S2 e q5 q6, e ≤ 1 → cr_b N T U R c S2 → cf_W cW_nee S S2 → cm_At (am_XX L xs) (d + 458) 300 1907 [some (.ref 1000000), some (.ref 0), some (.ref 83), some (.ref 132), some (.int (Int32.ofNat n)), some (.int q5), some (.int q6), none] [] S2 (cm_sh K e)) :
    cm_At (am_XX L xs) (d + 458) 300 1436 [some (.ref 1000000), some (.ref 0), some (.ref 83), some (.ref 132), some (.int (Int32.ofNat n)), o5, o6, none] [] S K := by
  obtain ⟨g1, g2, g3, g4, g5, g6, g7, g8, g9, g10, g11, g12, g13, g14⟩ := id hb
  have hwf := cr_wf g9 g10 g11
  refine cx_300_1436 _ _ _ ?_
  refine ⟨cr_in (j := 1) (by omega) hL2, ?_⟩
  rintro _ rfl
  refine ⟨cr_in (j := 2) (by omega) hL2, ?_⟩
  rintro _ rfl
  refine cq_needs (d := d + 448) g4 g5 g10 hwf (fun i j S2 hi hp ht hq hj v2 f2 => cp_r1 ?_) (fun hdf => cp_r1 ?_)
  · have f2w : cf_W cW_nee S S2 := cf_mono f2 (fun b j h => cW_nee_1 h)
    refine ⟨cr_in (j := 1) (by omega) hL2, ?_⟩
    rintro _ rfl
    refine ⟨cr_in (j := 2) (by omega) hL2, ?_⟩
    rintro _ rfl
    refine cs_needs (d := d) (cr_b_nee f2w hb) (fun i2 j2 S3 hi2 hp2 ht2 hq2 hj2 r75 f3 => cp_r1 ?_) (fun S3 hdf _ _ => absurd ?_ hdf)
    · have hii : i2 = i := (cp_inj (by omega) (by omega)).mp (hp2.symm.trans hp)
      subst hii
      have hM := cu_M_le (U := U) (g := i2)
      have hjj : j2 = j := (cp_inj (by omega) (by omega)).mp (hq2.symm.trans hq)
      subst hjj
      have f3w : cf_W cW_nee S S3 := cf_tr f2w (cf_mono f3 (fun b j h => cW_nee_2 h))
      refine cp_172 (d := d + 456) (cp_r1 ?_)
      rw [r75]
      refine ⟨fun _ => ⟨fun h0 => ⟨cp_in (i := 0) (by decide) (by decide), ?_⟩, fun h0 => absurd rfl h0⟩, fun h => absurd rfl h⟩
      rintro _ rfl
      have hv : S3.2 132 0 = (if cu_lim U i2 j2 = true then 1 else 0) := by rw [(f3 132 0 (by decide)).2]; exact v2
      have go := k S3 0 (0 : Int32) (if cu_lim U i2 j2 = true then 1 else 0) (by omega) (cr_b_nee f3w hb) f3w
      show (_ → (lg_cmp (S3.2 132 0) 0 = 0 → _) ∧ (¬ lg_cmp (S3.2 132 0) 0 = 0 → _)) ∧ (_ → (lg_cmp (S3.2 132 0) 1 = 0 → _) ∧ (¬ lg_cmp (S3.2 132 0) 1 = 0 → _))
      rw [hv]
      cases hl : cu_lim U i2 j2 with
      | false =>
        rw [hl, if_neg (by decide)] at go
        rw [if_neg (by decide), if_neg (by decide)]
        exact ⟨fun _ => ⟨fun _ => cx_300_1508 _ _ _ (cp_shz (cp_shz go)), fun h => absurd (cu_lg.mpr rfl) h⟩, fun h => absurd rfl h⟩
      | true =>
        rw [hl, if_pos rfl] at go
        rw [if_pos rfl, if_pos rfl]
        exact ⟨fun h => absurd h (by decide), fun _ => ⟨fun _ => cx_300_1508 _ _ _ (cp_shz (cp_shz go)), fun h => absurd (cu_lg.mpr rfl) h⟩⟩
    · rw [hp, hq]
      have hM := cu_M_le (U := U) (g := i)
      exact ⟨cr_df hi ht, by rw [cp_tI (by omega)]; omega, by rw [cp_cl (by omega), cp_tI (by omega)]; omega⟩
  · refine ⟨cr_in (j := 1) (by omega) hL2, ?_⟩
    rintro _ rfl
    refine ⟨cr_in (j := 2) (by omega) hL2, ?_⟩
    rintro _ rfl
    refine cs_needs (d := d) hb (fun i2 j2 S3 hi2 hp2 ht2 hq2 hj2 _ _ => absurd ?_ hdf) (fun S3 _ r75 f3 => cp_r1 ?_)
    · rw [hp2, hq2]
      have hM := cu_M_le (U := U) (g := i2)
      exact ⟨cr_df hi2 ht2, by rw [cp_tI (by omega)]; omega, by rw [cp_cl (by omega), cp_tI (by omega)]; omega⟩
    · have f3w : cf_W cW_nee S S3 := cf_mono f3 (fun b j h => cW_nee_2 h)
      refine cp_172 (d := d + 456) (cp_r1 ?_)
      rw [r75]
      exact ⟨fun _ => ⟨fun h0 => absurd h0 (by decide), fun _ => cx_300_1508 _ _ _ (cp_shz (cp_shz (k _ 1 _ _ (Nat.le_refl _) (cr_b_nee f3w hb) f3w)))⟩, fun h => absurd rfl h⟩
theorem cr_isAbsent (hb : cr_b N T U R c S) (hL : n + 5 ≤ L) (hL2 : L < 2147483648) (k : ∀ S2 e q5 q6, e ≤ 1 → cr_b N T U R c S2 → cf_W cW_nee S S2 → cm_At (am_XX L xs) (d + 458) 300 1907 [some (.ref 1000000), some (.ref 0), some (.ref 83), some (.ref 132), some (.int (Int32.ofNat n)), some (.int q5), some (.int q6), none] [] S2 (cm_sh K e)) :
    cm_At (am_XX L xs) (d + 458) 300 1511 [some (.ref 1000000), some (.ref 0), some (.ref 83), some (.ref 132), some (.int (Int32.ofNat n)), o5, o6, none] [] S K := by
  obtain ⟨g1, g2, g3, g4, g5, g6, g7, g8, g9, g10, g11, g12, g13, g14⟩ := id hb
  have hwf := cr_wf g9 g10 g11
  refine cx_300_1511 _ _ _ ?_
  refine ⟨cr_in (j := 1) (by omega) hL2, ?_⟩
  rintro _ rfl
  refine ⟨cr_in (j := 2) (by omega) hL2, ?_⟩
  rintro _ rfl
  refine cq_isAbsent (d := d + 451) g4 g5 g10 hwf (fun i j S2 hi hp ht hq hj v2 f2 => cp_r1 ?_) (fun hdf => cp_r1 ?_)
  · have f2w : cf_W cW_nee S S2 := cf_mono f2 (fun b j h => cW_nee_0 h)
    refine ⟨cr_in (j := 1) (by omega) hL2, ?_⟩
    rintro _ rfl
    refine ⟨cr_in (j := 2) (by omega) hL2, ?_⟩
    rintro _ rfl
    refine cs_isAbsent (d := d) (cr_b_nee f2w hb) (fun i2 j2 S3 hi2 hp2 ht2 hq2 hj2 r75 f3 => cp_r1 ?_) (fun S3 hdf _ _ => absurd ?_ hdf)
    · have hii : i2 = i := (cp_inj (by omega) (by omega)).mp (hp2.symm.trans hp)
      subst hii
      have hM := cu_M_le (U := U) (g := i2)
      have hjj : j2 = j := (cp_inj (by omega) (by omega)).mp (hq2.symm.trans hq)
      subst hjj
      have f3w : cf_W cW_nee S S3 := cf_tr f2w (cf_mono f3 (fun b j h => cW_nee_2 h))
      refine cp_172 (d := d + 456) (cp_r1 ?_)
      rw [r75]
      refine ⟨fun _ => ⟨fun h0 => ⟨cp_in (i := 0) (by decide) (by decide), ?_⟩, fun h0 => absurd rfl h0⟩, fun h => absurd rfl h⟩
      rintro _ rfl
      have hv : S3.2 132 0 = (if cu_abs U i2 j2 = true then 1 else 0) := by rw [(f3 132 0 (by decide)).2]; exact v2
      have go := k S3 0 (0 : Int32) (if cu_abs U i2 j2 = true then 1 else 0) (by omega) (cr_b_nee f3w hb) f3w
      show (_ → (lg_cmp (S3.2 132 0) 0 = 0 → _) ∧ (¬ lg_cmp (S3.2 132 0) 0 = 0 → _)) ∧ (_ → (lg_cmp (S3.2 132 0) 1 = 0 → _) ∧ (¬ lg_cmp (S3.2 132 0) 1 = 0 → _))
      rw [hv]
      cases hl : cu_abs U i2 j2 with
      | false =>
        rw [hl, if_neg (by decide)] at go
        rw [if_neg (by decide), if_neg (by decide)]
        exact ⟨fun _ => ⟨fun _ => cx_300_1583 _ _ _ (cp_shz (cp_shz go)), fun h => absurd (cu_lg.mpr rfl) h⟩, fun h => absurd rfl h⟩
      | true =>
        rw [hl, if_pos rfl] at go
        rw [if_pos rfl, if_pos rfl]
        exact ⟨fun h => absurd h (by decide), fun _ => ⟨fun _ => cx_300_1583 _ _ _ (cp_shz (cp_shz go)), fun h => absurd (cu_lg.mpr rfl) h⟩⟩
    · rw [hp, hq]
      have hM := cu_M_le (U := U) (g := i)
      exact ⟨cr_df hi ht, by rw [cp_tI (by omega)]; omega, by rw [cp_cl (by omega), cp_tI (by omega)]; omega⟩
  · refine ⟨cr_in (j := 1) (by omega) hL2, ?_⟩
    rintro _ rfl
    refine ⟨cr_in (j := 2) (by omega) hL2, ?_⟩
    rintro _ rfl
    refine cs_isAbsent (d := d) hb (fun i2 j2 S3 hi2 hp2 ht2 hq2 hj2 _ _ => absurd ?_ hdf) (fun S3 _ r75 f3 => cp_r1 ?_)
    · rw [hp2, hq2]
      have hM := cu_M_le (U := U) (g := i2)
      exact ⟨cr_df hi2 ht2, by rw [cp_tI (by omega)]; omega, by rw [cp_cl (by omega), cp_tI (by omega)]; omega⟩
    · have f3w : cf_W cW_nee S S3 := cf_mono f3 (fun b j h => cW_nee_2 h)
      refine cp_172 (d := d + 456) (cp_r1 ?_)
      rw [r75]
      exact ⟨fun _ => ⟨fun h0 => absurd h0 (by decide), fun _ => cx_300_1583 _ _ _ (cp_shz (cp_shz (k _ 1 _ _ (Nat.le_refl _) (cr_b_nee f3w hb) f3w)))⟩, fun h => absurd rfl h⟩
end CP87
