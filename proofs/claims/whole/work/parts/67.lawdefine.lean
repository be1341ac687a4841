/-! ## 67 the law's case of define -/
def cW_rest (b j : Nat) : Bool := decide (9 ≤ b ∧ b ≤ 20 ∨ b = 91 ∨ 92 ≤ b ∧ b ≤ 98 ∧ 2400 ≤ j ∨ b = 83 ∧ ¬ (j = 0 ∨ j = 23 ∨ j = 26) ∨ b = 100 ∨ 132 ≤ b)
theorem cr_b_fr {N : List ct_E} {T U : Nat → ct_T} {R : List (Int32 × Int32 × Int32 × Int32)} {c : Nat} {S S3 : cm_S} (hf : cf_W cW_rest S S3) (h : cr_b N T U R c S) : cr_b N T U R c S3 := by
  obtain ⟨g1, g2, g3, g4, g5, g6, g7, g8, g9, g10, g11, g12, g13, g14⟩ := h
  exact ⟨g1, ck_n_cf hf (fun b j q1 q2 => decide_eq_false (by omega)) g2, cl_n_f hf (decide_eq_false (by omega)) (fun b j q1 q2 => decide_eq_false (by omega)) g3, ck_d_fr hf (fun b j q1 q2 => decide_eq_false (by omega)) g4, ck_d_fr hf (fun b j q1 q2 => decide_eq_false (by omega)) g5, cl_d_fr g9 hf (fun j hj => decide_eq_false (by omega)) (fun b x q1 q2 q3 q4 => decide_eq_false (by omega)) g6, cl_d_fr g10 hf (fun j hj => decide_eq_false (by omega)) (fun b x q1 q2 q3 q4 => decide_eq_false (by omega)) g7, cl_i_cf hf (fun j => decide_eq_false (by omega)) g8, g9, g10, g11, ck_r_cf hf (decide_eq_false (by omega)) (fun j => decide_eq_false (by omega)) g12, cl_r_cf hf (decide_eq_false (by omega)) (fun b j q1 q2 => decide_eq_false (by omega)) g13, cl_cs_f hf (decide_eq_false (by omega)) (fun j => decide_eq_false (by omega)) g14⟩
def cW_de (b j : Nat) : Bool := decide (9 ≤ b ∧ b ≤ 20 ∨ 22 ≤ b ∧ b ≤ 26 ∨ 28 ≤ b ∧ b ≤ 32 ∨ b = 132 ∨ b = 91 ∨ 92 ≤ b ∧ b ≤ 98 ∧ (j < 2400 ∨ 4800 ≤ j) ∨ b = 83 ∧ (j = 9 ∨ j = 17 ∨ j = 19 ∨ j = 20 ∨ j = 23 ∨ j = 75) ∨ 100 ≤ b ∧ b ≤ 102 ∨ b = 103 ∧ j < 16)
theorem ct_d8 {T : Nat → ct_T} (h : ct_ds T) : ∀ j, j < 8 → ct_sz (T j) ≤ 150 := fun j hj => by
  by_cases hl : T j = .leaf
  · rw [hl, ct_sz_lf]; omega
  · exact (h j hj hl).1.2.2.2.2.2.2.2
section CP67
variable {L : Nat} {xs : Nat → Int32} {d : Nat} {N : List ct_E} {T U : Nat → ct_T} {R : List (Int32 × Int32 × Int32 × Int32)} {c n : Nat} {S : cm_S} {K : cm_K} {o5 o6 : Option Value}
theorem cr_define (hb : cr_b N T U R c S) (hcc : c < 2000000000) (hL : n + 5 ≤ L) (hL2 : L < 2147483648) (k : ∀ S2 T2 U2 c2 e q5 q6, e ≤ 1 → c2 ≤ c + 2 → cr_b N T2 U2 R c2 S2 → cf_W cW_de S S2 → cm_At (am_XX L xs) (d + 166) 300 1907 [some (.ref 1000000), some (.ref 0), some (.ref 83), some (.ref 132), some (.int (Int32.ofNat n)), some (.int q5), some (.int q6), none] [] S2 (cm_sh K e)) :
    cm_At (am_XX L xs) (d + 166) 300 1040 [some (.ref 1000000), some (.ref 0), some (.ref 83), some (.ref 132), some (.int (Int32.ofNat n)), o5, o6, none] [] S K := by
  obtain ⟨g1, g2, g3, g4, g5, g6, g7, g8, g9, g10, g11, g12, g13, g14⟩ := id hb
  refine cx_300_1040 _ _ _ ?_
  refine ⟨cr_in (j := 1) (by omega) hL2, ?_⟩
  rintro _ rfl
  refine ⟨cr_in (j := 2) (by omega) hL2, ?_⟩
  rintro _ rfl
  refine cq_define (d := d + 158) g1 g2 g4 g5 (fun j hj => ⟨ct_d8 g9 j hj, ct_d8 g10 j hj⟩) (fun i S2 hi hp1 hp hf d1 d2 v2 f2 => cp_r1 ?_) (fun hp => cp_r1 ?_) (fun hp h8 => cp_r1 ?_) (fun hp h8 hf S2 f2 => cp_r1 ?_)
  · have hrg : 0 ≤ (Int32.ofNat i).toInt ∧ (Int32.ofNat i).toInt < 8 := by rw [cp_tI (by omega)]; omega
    refine ⟨cr_in (j := 1) (by omega) hL2, ?_⟩
    rintro _ rfl
    refine ⟨cr_in (j := 2) (by omega) hL2, ?_⟩
    rintro _ rfl
    refine cs_define (d := d) g1 (cl_n_f f2 (decide_eq_false (by omega)) (fun b j q1 q2 => decide_eq_false (by omega)) g3) (cl_d_fr g9 f2 (fun j hj => decide_eq_false (by omega)) (fun b x q1 q2 q3 q4 => decide_eq_false (by omega)) g6) (cl_d_fr g10 f2 (fun j hj => decide_eq_false (by omega)) (fun b x q1 q2 q3 q4 => decide_eq_false (by omega)) g7) (cl_i_cf f2 (fun j => decide_eq_false (by omega)) g8) g9 g10 (cl_cs_f f2 (decide_eq_false (by omega)) (fun j => decide_eq_false (by omega)) g14) hcc (fun i2 S3 hi2 hp2 _ _ e1 e2 e3 r75 cs3 f3 => cp_r1 ?_) (fun hc => absurd hp hc) (fun _ hc => absurd (by rw [hp1]; exact hrg) hc) (fun _ _ hc => absurd hf hc)
    have hii : i2 = i := (cp_inj (by omega) (by omega)).mp (hp2.symm.trans hp1)
    subst hii
    refine cp_172 (d := d + 164) (cp_r1 ?_)
    rw [r75]
    refine ⟨fun _ => ⟨fun h0 => ⟨cp_in (i := 0) (by decide) (by decide), ?_⟩, fun h0 => absurd rfl h0⟩, fun h => absurd rfl h⟩
    rintro _ rfl
    have hco := ct_ev_co g1 hp hf
    obtain ⟨y1, y2, y3⟩ := ct_can_co hco
    have hv : S3.2 132 0 = (Int32.ofNat (ct_sz (ct_ev N (xs (Int32.ofNat n + Int32.ofNat 2).toNatClampNeg)))).toInt64 := by rw [(f3 132 0 (decide_eq_false (by omega))).2]; exact v2
    have hb3 : cr_b N (ct_up T i2 (ct_can (ct_ev N (xs (Int32.ofNat n + Int32.ofNat 2).toNatClampNeg)))) (ct_up U i2 (ct_can (ct_ev N (xs (Int32.ofNat n + Int32.ofNat 2).toNatClampNeg)))) R (c + 2) S3 := by
      refine ⟨g1, ck_n_cf f3 (fun b j q1 q2 => decide_eq_false (by omega)) (ck_n_cf f2 (fun b j q1 q2 => decide_eq_false (by omega)) g2), cl_n_f f3 (decide_eq_false (by omega)) (fun b j q1 q2 => decide_eq_false (by omega)) (cl_n_f f2 (decide_eq_false (by omega)) (fun b j q1 q2 => decide_eq_false (by omega)) g3), ck_d_fr f3 (fun b j q1 q2 => decide_eq_false (by omega)) d1, ck_d_fr f3 (fun b j q1 q2 => decide_eq_false (by omega)) d2, e1, e2, e3, ct_ds_up g9 y1 y2, ct_ds_up g10 y1 y2, fun j hj => ?_, ck_r_cf f3 (decide_eq_false (by omega)) (fun j => decide_eq_false (by omega)) (ck_r_cf f2 (decide_eq_false (by omega)) (fun j => decide_eq_false (by omega)) g12), cl_r_cf f3 (decide_eq_false (by omega)) (fun b j q1 q2 => decide_eq_false (by omega)) (cl_r_cf f2 (decide_eq_false (by omega)) (fun b j q1 q2 => decide_eq_false (by omega)) g13), cs3⟩
      unfold ct_up
      by_cases hji : j = i2
      · rw [if_pos hji, if_pos hji]
      · rw [if_neg hji, if_neg hji]; exact g11 j hj
    have hf3 : cf_W cW_de S S3 := cf_tr (cf_mono f2 (fun b j h => decide_eq_true (by have h := of_decide_eq_true h; omega))) (cf_mono f3 (fun b j h => decide_eq_true (by have h := of_decide_eq_true h; omega)))
    refine ⟨fun _ => cx_300_1105 _ _ _ (cp_shz (cp_shz (k S3 _ _ _ 0 _ _ (by omega) (Nat.le_refl _) hb3 hf3))), fun h => absurd ?_ h⟩
    show lg_cmp (S3.2 132 0) _ = 0
    rw [hv]
    unfold lg_cmp
    exact (if_neg (by simp)).trans (if_pos rfl)
  · refine ⟨cr_in (j := 1) (by omega) hL2, ?_⟩
    rintro _ rfl
    refine ⟨cr_in (j := 2) (by omega) hL2, ?_⟩
    rintro _ rfl
    refine cs_define (d := d) g1 g3 g6 g7 g8 g9 g10 g14 hcc (fun i2 S3 _ _ hc _ _ _ _ _ _ _ => absurd hc hp) (fun _ => cp_r1 ?_) (fun hc _ => absurd hc hp) (fun hc _ _ _ _ _ => absurd hc hp)
    have r75 : (cm_wI S 83 75 1).1 83 75 = 1 := by rw [cp_wI1, if_pos ⟨rfl, rfl⟩]
    have hf3 : cf_W cW_rest S (cm_wI S 83 75 1) := cf_wI (decide_eq_true (by omega))
    have hf4 : cf_W cW_de S (cm_wI S 83 75 1) := cf_wI (decide_eq_true (by omega))
    refine cp_172 (d := d + 164) (cp_r1 ?_)
    rw [r75]
    exact ⟨fun _ => ⟨fun h0 => absurd h0 (by decide), fun _ => cx_300_1105 _ _ _ (cp_shz (cp_shz (k (cm_wI S 83 75 1) T U c 1 _ _ (Nat.le_refl _) (by omega) (cr_b_fr hf3 hb) hf4)))⟩, fun h => absurd rfl h⟩
  · refine ⟨cr_in (j := 1) (by omega) hL2, ?_⟩
    rintro _ rfl
    refine ⟨cr_in (j := 2) (by omega) hL2, ?_⟩
    rintro _ rfl
    refine cs_define (d := d) g1 g3 g6 g7 g8 g9 g10 g14 hcc (fun i2 S3 hi2 hp2 _ _ _ _ _ _ _ _ => absurd (by rw [hp2, cp_tI (by omega)]; omega) h8) (fun hc => absurd hp hc) (fun _ _ => cp_r1 ?_) (fun _ hc _ _ _ _ => absurd hc h8)
    have r75 : (cm_wI S 83 75 2).1 83 75 = 2 := by rw [cp_wI1, if_pos ⟨rfl, rfl⟩]
    have hf3 : cf_W cW_rest S (cm_wI S 83 75 2) := cf_wI (decide_eq_true (by omega))
    have hf4 : cf_W cW_de S (cm_wI S 83 75 2) := cf_wI (decide_eq_true (by omega))
    refine cp_172 (d := d + 164) (cp_r1 ?_)
    rw [r75]
    exact ⟨fun _ => ⟨fun h0 => absurd h0 (by decide), fun _ => cx_300_1105 _ _ _ (cp_shz (cp_shz (k (cm_wI S 83 75 2) T U c 1 _ _ (Nat.le_refl _) (by omega) (cr_b_fr hf3 hb) hf4)))⟩, fun h => absurd rfl h⟩
  · refine ⟨cr_in (j := 1) (by omega) hL2, ?_⟩
    rintro _ rfl
    refine ⟨cr_in (j := 2) (by omega) hL2, ?_⟩
    rintro _ rfl
    refine cs_define (d := d) g1 (cl_n_f f2 (decide_eq_false (by omega)) (fun b j q1 q2 => decide_eq_false (by omega)) g3) (cl_d_fr g9 f2 (fun j hj => decide_eq_false (by omega)) (fun b x q1 q2 q3 q4 => decide_eq_false (by omega)) g6) (cl_d_fr g10 f2 (fun j hj => decide_eq_false (by omega)) (fun b x q1 q2 q3 q4 => decide_eq_false (by omega)) g7) (cl_i_cf f2 (fun j => decide_eq_false (by omega)) g8) g9 g10 (cl_cs_f f2 (decide_eq_false (by omega)) (fun j => decide_eq_false (by omega)) g14) hcc (fun i2 S3 _ _ _ hc _ _ _ _ _ _ => absurd hc hf) (fun hc => absurd hp hc) (fun _ hc => absurd h8 hc) (fun _ _ _ S3 r3 f3 => cp_r1 ?_)
    have r75 := r3
    have hf3 : cf_W cW_rest S S3 := cf_tr (cf_mono f2 (fun b j h => decide_eq_true (by have h := of_decide_eq_true h; omega))) (cf_mono f3 (fun b j h => decide_eq_true (by have h := of_decide_eq_true h; omega)))
    have hf4 : cf_W cW_de S S3 := cf_tr (cf_mono f2 (fun b j h => decide_eq_true (by have h := of_decide_eq_true h; omega))) (cf_mono f3 (fun b j h => decide_eq_true (by have h := of_decide_eq_true h; omega)))
    refine cp_172 (d := d + 164) (cp_r1 ?_)
    rw [r75]
    exact ⟨fun _ => ⟨fun h0 => absurd h0 (by decide), fun _ => cx_300_1105 _ _ _ (cp_shz (cp_shz (k S3 T U c 1 _ _ (Nat.le_refl _) (by omega) (cr_b_fr hf3 hb) hf4)))⟩, fun h => absurd rfl h⟩
end CP67
