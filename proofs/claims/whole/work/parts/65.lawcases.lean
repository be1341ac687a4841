/-! ## 65 what class and model have in common; the law's first cases -/
/-- nodes N, definitions T (told) and U (now), rules R, c copyings -/
def cr_b (N : List ct_E) (T U : Nat → ct_T) (R : List (Int32 × Int32 × Int32 × Int32)) (c : Nat) (S : cm_S) : Prop := ct_vs N ∧ ck_n S N ∧ cl_n S N ∧ ck_d S 21 T ∧ ck_d S 27 U ∧ cl_d S 0 0 T ∧ cl_d S 8 1200 U ∧ cl_i S T ∧ ct_ds T ∧ ct_ds U ∧ (∀ i, i < 8 → (T i = .leaf ↔ U i = .leaf)) ∧ ck_r S R ∧ cl_r S R ∧ cl_cs S c
theorem ck_r_cf {W : Nat → Nat → Bool} {S S2 : cm_S} {R : List (Int32 × Int32 × Int32 × Int32)} (hc : cf_W W S S2) (h0 : W 37 6 = false) (h1 : ∀ j, W 56 j = false) (h : ck_r S R) : ck_r S2 R :=
  ⟨h.1, (hc _ _ h0).1.trans h.2.1, fun i q hq => (hc _ _ (h1 i)).1.trans (h.2.2 i q hq)⟩
theorem cl_r_cf {W : Nat → Nat → Bool} {S S2 : cm_S} {R : List (Int32 × Int32 × Int32 × Int32)} (hc : cf_W W S S2) (h0 : W 83 26 = false) (h1 : ∀ b j, 104 ≤ b → b ≤ 107 → W b j = false) (h : cl_r S R) : cl_r S2 R := by
  refine ⟨h.1, (hc _ _ h0).1.trans h.2.1, fun i q hq => ?_⟩
  obtain ⟨e1, e2, e3, e4⟩ := h.2.2 i q hq
  exact ⟨(hc _ _ (h1 104 i (by omega) (by omega))).1.trans e1, (hc _ _ (h1 105 i (by omega) (by omega))).1.trans e2, (hc _ _ (h1 106 i (by omega) (by omega))).1.trans e3, (hc _ _ (h1 107 i (by omega) (by omega))).1.trans e4⟩
theorem cl_i_cf {W : Nat → Nat → Bool} {S S2 : cm_S} {T : Nat → ct_T} (hc : cf_W W S S2) (h0 : ∀ j, W 102 j = false) (h : cl_i S T) : cl_i S2 T := fun i hi => by
  rw [(hc _ _ (h0 i)).1]
  exact h i hi
theorem ct_vs_sm {N : List ct_E} (h : ct_vs N) : ct_sm N := fun i e he => (h.2 i e he).2.2.2.2.2.2.2.2.2.2
/-- a node made on both sides -/
theorem cr_b_mk {N N2 : List ct_E} {T U : Nat → ct_T} {R : List (Int32 × Int32 × Int32 × Int32)} {c : Nat} {S S2 S3 : cm_S} (h : cr_b N T U R c S) (hv : ct_vs N2) (k2 : ck_n S2 N2) (f2 : cf_W cW_n S S2) (k3 : cl_n S3 N2) (f3 : cf_W cW_m S2 S3) : cr_b N2 T U R c S3 := by
  obtain ⟨g1, g2, g3, g4, g5, g6, g7, g8, g9, g10, g11, g12, g13, g14⟩ := h
  have hf : cf_W (fun b j => decide (1 ≤ b ∧ b ≤ 8 ∨ b = 132 ∨ 84 ≤ b ∧ b ≤ 90 ∨ b = 83 ∧ (j = 0 ∨ j = 75))) S S3 := cf_tr (cf_mono f2 (fun b j h => decide_eq_true (by have h := of_decide_eq_true h; omega))) (cf_mono f3 (fun b j h => decide_eq_true (by have h := of_decide_eq_true h; omega)))
  refine ⟨hv, ck_n_cf f3 (fun b j q1 q2 => decide_eq_false (by omega)) k2, k3, ck_d_fr hf (fun b j q1 q2 => decide_eq_false (by omega)) g4, ck_d_fr hf (fun b j q1 q2 => decide_eq_false (by omega)) g5, cl_d_fr g9 hf (fun j hj => decide_eq_false (by omega)) (fun b x q1 q2 q3 q4 => decide_eq_false (by omega)) g6, cl_d_fr g10 hf (fun j hj => decide_eq_false (by omega)) (fun b x q1 q2 q3 q4 => decide_eq_false (by omega)) g7, cl_i_cf hf (fun j => decide_eq_false (by omega)) g8, g9, g10, g11, ck_r_cf hf (decide_eq_false (by omega)) (fun j => decide_eq_false (by omega)) g12, cl_r_cf hf (decide_eq_false (by omega)) (fun b j q1 q2 => decide_eq_false (by omega)) g13, cl_cs_f hf (decide_eq_false (by omega)) (fun j => decide_eq_false (by omega)) g14⟩
theorem cr_cln {N : List ct_E} {S S2 : cm_S} (f2 : cf_W cW_n S S2) (h : cl_n S N) : cl_n S2 N := cl_n_f f2 (decide_eq_false (by omega)) (fun b j q1 q2 => decide_eq_false (by omega)) h
theorem ct_mk_le {N : List ct_E} {bad full : Nat} {k v w f s t : Int32} {n : Int64} (hb : bad ≤ 3) (hf : full ≤ 3) : (ct_mk N bad full k n v w f s t).1 ≤ 3 := by
  unfold ct_mk
  split
  · split
    · exact hf
    · exact Nat.zero_le _
  · exact hb
theorem cr_z {m : Nat} (h : m ≤ 3) (h0 : Int32.ofNat m = 0) : m = 0 := (cp_inj (by omega) (by omega)).mp (h0.trans (show (0 : Int32) = Int32.ofNat 0 from rfl))
theorem cr_in {n j L : Nat} (h : n + j < L) (hL : L < 2147483648) : am_in (Int32.ofNat n + Int32.ofNat j) L := by rw [cp_ad]; exact cp_in h hL
section CP65
variable {L : Nat} {xs : Nat → Int32} {d : Nat} {N : List ct_E} {T U : Nat → ct_T} {R : List (Int32 × Int32 × Int32 × Int32)} {c n : Nat} {S : cm_S} {K : cm_K} {o5 o6 : Option Value}
theorem cr_number (hb : cr_b N T U R c S) (hL : n + 5 ≤ L) (hL2 : L < 2147483648) (k : ∀ S2 N2 e q5 q6, e ≤ 1 → cr_b N2 T U R c S2 → cf_W (fun b j => cW_n b j || cW_m b j) S S2 → cm_At (am_XX L xs) (d + 7) 300 1907 [some (.ref 1000000), some (.ref 0), some (.ref 83), some (.ref 132), some (.int (Int32.ofNat n)), some (.int q5), some (.int q6), none] [] S2 (cm_sh K e)) :
    cm_At (am_XX L xs) (d + 7) 300 164 [some (.ref 1000000), some (.ref 0), some (.ref 83), some (.ref 132), some (.int (Int32.ofNat n)), o5, o6, none] [] S K := by
  have hsm := ct_vs_sm hb.1
  refine cx_300_164 _ _ _ ?_
  refine ⟨cr_in (j := 1) (by omega) hL2, ?_⟩
  rintro _ rfl
  refine ⟨cr_in (j := 2) (by omega) hL2, ?_⟩
  rintro _ rfl
  refine cq_number _ hb.2.1 hsm (fun S2 e k2 f2 v2 e1 => cp_r1 ?_)
  refine ⟨cr_in (j := 1) (by omega) hL2, ?_⟩
  rintro _ rfl
  refine ⟨cr_in (j := 2) (by omega) hL2, ?_⟩
  rintro _ rfl
  refine cs_number (d := d + 3) _ (cr_cln f2 hb.2.2.1) hsm (fun S3 r k3 e3 r3 f3 => cp_r1 ?_)
  refine cp_172 (d := d + 5) (cp_r1 ?_)
  rw [e3]
  have go : ∀ q5 q6, cm_At (am_XX L xs) (d + 7) 300 1907 [some (.ref 1000000), some (.ref 0), some (.ref 83), some (.ref 132), some (.int (Int32.ofNat n)), some (.int q5), some (.int q6), none] [] S3 (cm_sh K e) := fun q5 q6 => k S3 _ e q5 q6 e1 (cr_b_mk hb (ct_vs_number _ hb.1) k2 f2 k3 f3) (cf_tr (cf_mono f2 (fun b j h => by rw [h]; rfl)) (cf_mono f3 (fun b j h => by rw [h]; exact Bool.or_true _)))
  refine ⟨fun _ => ⟨fun h0 => ⟨cp_in (i := 0) (by decide) (by decide), ?_⟩, fun h0 => ?_⟩, fun h => absurd rfl h⟩
  · rintro _ rfl
    have hz := cr_z (ct_mk_le (by repeat (first | decide | split)) (by decide)) h0
    have hv : S3.2 132 0 = r.toInt64 := by rw [(f3 132 0 (decide_eq_false (by omega))).2, v2 hz, r3 hz]
    refine ⟨fun _ => cx_300_249 _ _ _ (cp_shz (cp_shz (go _ _))), fun h => absurd ?_ h⟩
    show lg_cmp (S3.2 132 0) r.toInt64 = 0
    rw [hv]
    unfold lg_cmp
    rw [if_neg (by simp), if_pos rfl]
  · exact cx_300_249 _ _ _ (cp_shz (cp_shz (go _ _)))
theorem cr_variable (hb : cr_b N T U R c S) (hL : n + 5 ≤ L) (hL2 : L < 2147483648) (k : ∀ S2 N2 e q5 q6, e ≤ 1 → cr_b N2 T U R c S2 → cf_W (fun b j => cW_n b j || cW_m b j) S S2 → cm_At (am_XX L xs) (d + 7) 300 1907 [some (.ref 1000000), some (.ref 0), some (.ref 83), some (.ref 132), some (.int (Int32.ofNat n)), some (.int q5), some (.int q6), none] [] S2 (cm_sh K e)) :
    cm_At (am_XX L xs) (d + 7) 300 252 [some (.ref 1000000), some (.ref 0), some (.ref 83), some (.ref 132), some (.int (Int32.ofNat n)), o5, o6, none] [] S K := by
  have hsm := ct_vs_sm hb.1
  refine cx_300_252 _ _ _ ?_
  refine ⟨cr_in (j := 1) (by omega) hL2, ?_⟩
  rintro _ rfl
  refine cq_variable _ hb.2.1 hsm (fun S2 e k2 f2 v2 e1 => cp_r1 ?_)
  refine ⟨cr_in (j := 1) (by omega) hL2, ?_⟩
  rintro _ rfl
  refine cs_variable (d := d + 3) _ (cr_cln f2 hb.2.2.1) hsm (fun S3 r k3 e3 r3 f3 => cp_r1 ?_)
  refine cp_172 (d := d + 5) (cp_r1 ?_)
  rw [e3]
  have go : ∀ q5 q6, cm_At (am_XX L xs) (d + 7) 300 1907 [some (.ref 1000000), some (.ref 0), some (.ref 83), some (.ref 132), some (.int (Int32.ofNat n)), some (.int q5), some (.int q6), none] [] S3 (cm_sh K e) := fun q5 q6 => k S3 _ e q5 q6 e1 (cr_b_mk hb (ct_vs_variable _ hb.1) k2 f2 k3 f3) (cf_tr (cf_mono f2 (fun b j h => by rw [h]; rfl)) (cf_mono f3 (fun b j h => by rw [h]; exact Bool.or_true _)))
  refine ⟨fun _ => ⟨fun h0 => ⟨cp_in (i := 0) (by decide) (by decide), ?_⟩, fun h0 => ?_⟩, fun h => absurd rfl h⟩
  · rintro _ rfl
    have hz := cr_z (ct_mk_le (by repeat (first | decide | split)) (by decide)) h0
    have hv : S3.2 132 0 = r.toInt64 := by rw [(f3 132 0 (decide_eq_false (by omega))).2, v2 hz, r3 hz]
    refine ⟨fun _ => cx_300_305 _ _ _ (cp_shz (cp_shz (go _ _))), fun h => absurd ?_ h⟩
    show lg_cmp (S3.2 132 0) r.toInt64 = 0
    rw [hv]
    unfold lg_cmp
    rw [if_neg (by simp), if_pos rfl]
  · exact cx_300_305 _ _ _ (cp_shz (cp_shz (go _ _)))
theorem cr_global (hb : cr_b N T U R c S) (hL : n + 5 ≤ L) (hL2 : L < 2147483648) (k : ∀ S2 N2 e q5 q6, e ≤ 1 → cr_b N2 T U R c S2 → cf_W (fun b j => cW_n b j || cW_m b j) S S2 → cm_At (am_XX L xs) (d + 7) 300 1907 [some (.ref 1000000), some (.ref 0), some (.ref 83), some (.ref 132), some (.int (Int32.ofNat n)), some (.int q5), some (.int q6), none] [] S2 (cm_sh K e)) :
    cm_At (am_XX L xs) (d + 7) 300 308 [some (.ref 1000000), some (.ref 0), some (.ref 83), some (.ref 132), some (.int (Int32.ofNat n)), o5, o6, none] [] S K := by
  have hsm := ct_vs_sm hb.1
  refine cx_300_308 _ _ _ ?_
  refine ⟨cr_in (j := 1) (by omega) hL2, ?_⟩
  rintro _ rfl
  refine cq_global _ hb.2.1 hsm (fun S2 e k2 f2 v2 e1 => cp_r1 ?_)
  refine ⟨cr_in (j := 1) (by omega) hL2, ?_⟩
  rintro _ rfl
  refine cs_global (d := d + 3) _ (cr_cln f2 hb.2.2.1) hsm (fun S3 r k3 e3 r3 f3 => cp_r1 ?_)
  refine cp_172 (d := d + 5) (cp_r1 ?_)
  rw [e3]
  have go : ∀ q5 q6, cm_At (am_XX L xs) (d + 7) 300 1907 [some (.ref 1000000), some (.ref 0), some (.ref 83), some (.ref 132), some (.int (Int32.ofNat n)), some (.int q5), some (.int q6), none] [] S3 (cm_sh K e) := fun q5 q6 => k S3 _ e q5 q6 e1 (cr_b_mk hb (ct_vs_global _ hb.1) k2 f2 k3 f3) (cf_tr (cf_mono f2 (fun b j h => by rw [h]; rfl)) (cf_mono f3 (fun b j h => by rw [h]; exact Bool.or_true _)))
  refine ⟨fun _ => ⟨fun h0 => ⟨cp_in (i := 0) (by decide) (by decide), ?_⟩, fun h0 => ?_⟩, fun h => absurd rfl h⟩
  · rintro _ rfl
    have hz := cr_z (ct_mk_le (by repeat (first | decide | split)) (by decide)) h0
    have hv : S3.2 132 0 = r.toInt64 := by rw [(f3 132 0 (decide_eq_false (by omega))).2, v2 hz, r3 hz]
    refine ⟨fun _ => cx_300_361 _ _ _ (cp_shz (cp_shz (go _ _))), fun h => absurd ?_ h⟩
    show lg_cmp (S3.2 132 0) r.toInt64 = 0
    rw [hv]
    unfold lg_cmp
    rw [if_neg (by simp), if_pos rfl]
  · exact cx_300_361 _ _ _ (cp_shz (cp_shz (go _ _)))
theorem cr_lambda (hb : cr_b N T U R c S) (hL : n + 5 ≤ L) (hL2 : L < 2147483648) (k : ∀ S2 N2 e q5 q6, e ≤ 1 → cr_b N2 T U R c S2 → cf_W (fun b j => cW_n b j || cW_m b j) S S2 → cm_At (am_XX L xs) (d + 7) 300 1907 [some (.ref 1000000), some (.ref 0), some (.ref 83), some (.ref 132), some (.int (Int32.ofNat n)), some (.int q5), some (.int q6), none] [] S2 (cm_sh K e)) :
    cm_At (am_XX L xs) (d + 7) 300 364 [some (.ref 1000000), some (.ref 0), some (.ref 83), some (.ref 132), some (.int (Int32.ofNat n)), o5, o6, none] [] S K := by
  have hsm := ct_vs_sm hb.1
  refine cx_300_364 _ _ _ ?_
  refine ⟨cr_in (j := 1) (by omega) hL2, ?_⟩
  rintro _ rfl
  refine ⟨cr_in (j := 2) (by omega) hL2, ?_⟩
  rintro _ rfl
  refine cq_lambda _ _ hb.2.1 hsm (fun S2 e k2 f2 v2 e1 => cp_r1 ?_)
  refine ⟨cr_in (j := 1) (by omega) hL2, ?_⟩
  rintro _ rfl
  refine ⟨cr_in (j := 2) (by omega) hL2, ?_⟩
  rintro _ rfl
  refine cs_lambda (d := d + 3) _ _ (cr_cln f2 hb.2.2.1) hsm (fun S3 r k3 e3 r3 f3 => cp_r1 ?_)
  refine cp_172 (d := d + 5) (cp_r1 ?_)
  rw [e3]
  have go : ∀ q5 q6, cm_At (am_XX L xs) (d + 7) 300 1907 [some (.ref 1000000), some (.ref 0), some (.ref 83), some (.ref 132), some (.int (Int32.ofNat n)), some (.int q5), some (.int q6), none] [] S3 (cm_sh K e) := fun q5 q6 => k S3 _ e q5 q6 e1 (cr_b_mk hb (ct_vs_lambda _ _ hb.1) k2 f2 k3 f3) (cf_tr (cf_mono f2 (fun b j h => by rw [h]; rfl)) (cf_mono f3 (fun b j h => by rw [h]; exact Bool.or_true _)))
  refine ⟨fun _ => ⟨fun h0 => ⟨cp_in (i := 0) (by decide) (by decide), ?_⟩, fun h0 => ?_⟩, fun h => absurd rfl h⟩
  · rintro _ rfl
    have hz := cr_z (ct_mk_le (by repeat (first | decide | split)) (by decide)) h0
    have hv : S3.2 132 0 = r.toInt64 := by rw [(f3 132 0 (decide_eq_false (by omega))).2, v2 hz, r3 hz]
    refine ⟨fun _ => cx_300_429 _ _ _ (cp_shz (cp_shz (go _ _))), fun h => absurd ?_ h⟩
    show lg_cmp (S3.2 132 0) r.toInt64 = 0
    rw [hv]
    unfold lg_cmp
    rw [if_neg (by simp), if_pos rfl]
  · exact cx_300_429 _ _ _ (cp_shz (cp_shz (go _ _)))
theorem cr_apply (hb : cr_b N T U R c S) (hL : n + 5 ≤ L) (hL2 : L < 2147483648) (k : ∀ S2 N2 e q5 q6, e ≤ 1 → cr_b N2 T U R c S2 → cf_W (fun b j => cW_n b j || cW_m b j) S S2 → cm_At (am_XX L xs) (d + 7) 300 1907 [some (.ref 1000000), some (.ref 0), some (.ref 83), some (.ref 132), some (.int (Int32.ofNat n)), some (.int q5), some (.int q6), none] [] S2 (cm_sh K e)) :
    cm_At (am_XX L xs) (d + 7) 300 432 [some (.ref 1000000), some (.ref 0), some (.ref 83), some (.ref 132), some (.int (Int32.ofNat n)), o5, o6, none] [] S K := by
  have hsm := ct_vs_sm hb.1
  refine cx_300_432 _ _ _ ?_
  refine ⟨cr_in (j := 1) (by omega) hL2, ?_⟩
  rintro _ rfl
  refine ⟨cr_in (j := 2) (by omega) hL2, ?_⟩
  rintro _ rfl
  refine cq_apply _ _ hb.2.1 hsm (fun S2 e k2 f2 v2 e1 => cp_r1 ?_)
  refine ⟨cr_in (j := 1) (by omega) hL2, ?_⟩
  rintro _ rfl
  refine ⟨cr_in (j := 2) (by omega) hL2, ?_⟩
  rintro _ rfl
  refine cs_apply (d := d + 3) _ _ (cr_cln f2 hb.2.2.1) hsm (fun S3 r k3 e3 r3 f3 => cp_r1 ?_)
  refine cp_172 (d := d + 5) (cp_r1 ?_)
  rw [e3]
  have go : ∀ q5 q6, cm_At (am_XX L xs) (d + 7) 300 1907 [some (.ref 1000000), some (.ref 0), some (.ref 83), some (.ref 132), some (.int (Int32.ofNat n)), some (.int q5), some (.int q6), none] [] S3 (cm_sh K e) := fun q5 q6 => k S3 _ e q5 q6 e1 (cr_b_mk hb (ct_vs_apply _ _ hb.1) k2 f2 k3 f3) (cf_tr (cf_mono f2 (fun b j h => by rw [h]; rfl)) (cf_mono f3 (fun b j h => by rw [h]; exact Bool.or_true _)))
  refine ⟨fun _ => ⟨fun h0 => ⟨cp_in (i := 0) (by decide) (by decide), ?_⟩, fun h0 => ?_⟩, fun h => absurd rfl h⟩
  · rintro _ rfl
    have hz := cr_z (ct_mk_le (by repeat (first | decide | split)) (by decide)) h0
    have hv : S3.2 132 0 = r.toInt64 := by rw [(f3 132 0 (decide_eq_false (by omega))).2, v2 hz, r3 hz]
    refine ⟨fun _ => cx_300_497 _ _ _ (cp_shz (cp_shz (go _ _))), fun h => absurd ?_ h⟩
    show lg_cmp (S3.2 132 0) r.toInt64 = 0
    rw [hv]
    unfold lg_cmp
    rw [if_neg (by simp), if_pos rfl]
  · exact cx_300_497 _ _ _ (cp_shz (cp_shz (go _ _)))
end CP65
