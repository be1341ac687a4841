/-! ## 66 the law's other cases that make nodes -/
section CP66
variable {L : Nat} {xs : Nat → Int32} {d : Nat} {N : List ct_E} {T U : Nat → ct_T} {R : List (Int32 × Int32 × Int32 × Int32)} {c n : Nat} {S : cm_S} {K : cm_K} {o5 o6 : Option Value}
theorem cr_primitive (hb : cr_b N T U R c S) (hL : n + 5 ≤ L) (hL2 : L < 2147483648) (k : ∀ S2 N2 e q5 q6, e ≤ 1 → cr_b N2 T U R c S2 → cf_W (fun b j => cW_n b j || cW_m b j) S S2 → cm_At (am_XX L xs) (d + 7) 300 1907 [some (.ref 1000000), some (.ref 0), some (.ref 83), some (.ref 132), some (.int (Int32.ofNat n)), some (.int q5), some (.int q6), none] [] S2 (cm_sh K e)) :
    cm_At (am_XX L xs) (d + 7) 300 608 [some (.ref 1000000), some (.ref 0), some (.ref 83), some (.ref 132), some (.int (Int32.ofNat n)), o5, o6, none] [] S K := by
  have hsm := ct_vs_sm hb.1
  refine cx_300_608 _ _ _ ?_
  refine ⟨cr_in (j := 1) (by omega) hL2, ?_⟩
  rintro _ rfl
  refine ⟨cr_in (j := 2) (by omega) hL2, ?_⟩
  rintro _ rfl
  refine ⟨cr_in (j := 3) (by omega) hL2, ?_⟩
  rintro _ rfl
  refine cq_primitive _ _ _ hb.2.1 hsm (fun S2 e k2 f2 v2 e1 => cp_r1 ?_)
  refine ⟨cr_in (j := 1) (by omega) hL2, ?_⟩
  rintro _ rfl
  refine ⟨cr_in (j := 2) (by omega) hL2, ?_⟩
  rintro _ rfl
  refine ⟨cr_in (j := 3) (by omega) hL2, ?_⟩
  rintro _ rfl
  refine cs_primitive (d := d + 3) _ _ _ (cr_cln f2 hb.2.2.1) hsm (fun S3 r k3 e3 r3 f3 => cp_r1 ?_)
  refine cp_172 (d := d + 5) (cp_r1 ?_)
  rw [e3]
  have go : ∀ q5 q6, cm_At (am_XX L xs) (d + 7) 300 1907 [some (.ref 1000000), some (.ref 0), some (.ref 83), some (.ref 132), some (.int (Int32.ofNat n)), some (.int q5), some (.int q6), none] [] S3 (cm_sh K e) := fun q5 q6 => k S3 _ e q5 q6 e1 (cr_b_mk hb (ct_vs_primitive _ _ _ hb.1) k2 f2 k3 f3) (cf_tr (cf_mono f2 (fun b j h => by rw [h]; rfl)) (cf_mono f3 (fun b j h => by rw [h]; exact Bool.or_true _)))
  refine ⟨fun _ => ⟨fun h0 => ⟨cp_in (i := 0) (by decide) (by decide), ?_⟩, fun h0 => ?_⟩, fun h => absurd rfl h⟩
  · rintro _ rfl
    have hz := cr_z (ct_mk_le (by repeat (first | decide | split)) (by decide)) h0
    have hv : S3.2 132 0 = r.toInt64 := by rw [(f3 132 0 (decide_eq_false (by omega))).2, v2 hz, r3 hz]
    refine ⟨fun _ => cx_300_685 _ _ _ (cp_shz (cp_shz (go _ _))), fun h => absurd ?_ h⟩
    show lg_cmp (S3.2 132 0) r.toInt64 = 0
    rw [hv]
    unfold lg_cmp
    rw [if_neg (by simp), if_pos rfl]
  · exact cx_300_685 _ _ _ (cp_shz (cp_shz (go _ _)))
theorem cr_nil (hb : cr_b N T U R c S) (hL : n + 5 ≤ L) (hL2 : L < 2147483648) (k : ∀ S2 N2 e q5 q6, e ≤ 1 → cr_b N2 T U R c S2 → cf_W (fun b j => cW_n b j || cW_m b j) S S2 → cm_At (am_XX L xs) (d + 7) 300 1907 [some (.ref 1000000), some (.ref 0), some (.ref 83), some (.ref 132), some (.int (Int32.ofNat n)), some (.int q5), some (.int q6), none] [] S2 (cm_sh K e)) :
    cm_At (am_XX L xs) (d + 7) 300 688 [some (.ref 1000000), some (.ref 0), some (.ref 83), some (.ref 132), some (.int (Int32.ofNat n)), o5, o6, none] [] S K := by
  have hsm := ct_vs_sm hb.1
  refine cx_300_688 _ _ _ ?_
  refine cq_nil  hb.2.1 hsm (fun S2 e k2 f2 v2 e1 => cp_r1 ?_)
  refine cs_nil (d := d + 3)  (cr_cln f2 hb.2.2.1) hsm (fun S3 r k3 e3 r3 f3 => cp_r1 ?_)
  refine cp_172 (d := d + 5) (cp_r1 ?_)
  rw [e3]
  have go : ∀ q5 q6, cm_At (am_XX L xs) (d + 7) 300 1907 [some (.ref 1000000), some (.ref 0), some (.ref 83), some (.ref 132), some (.int (Int32.ofNat n)), some (.int q5), some (.int q6), none] [] S3 (cm_sh K e) := fun q5 q6 => k S3 _ e q5 q6 e1 (cr_b_mk hb (ct_vs_nil  hb.1) k2 f2 k3 f3) (cf_tr (cf_mono f2 (fun b j h => by rw [h]; rfl)) (cf_mono f3 (fun b j h => by rw [h]; exact Bool.or_true _)))
  refine ⟨fun _ => ⟨fun h0 => ⟨cp_in (i := 0) (by decide) (by decide), ?_⟩, fun h0 => ?_⟩, fun h => absurd rfl h⟩
  · rintro _ rfl
    have hz := cr_z (ct_mk_le (by repeat (first | decide | split)) (by decide)) h0
    have hv : S3.2 132 0 = r.toInt64 := by rw [(f3 132 0 (decide_eq_false (by omega))).2, v2 hz, r3 hz]
    refine ⟨fun _ => cx_300_729 _ _ _ (cp_shz (cp_shz (go _ _))), fun h => absurd ?_ h⟩
    show lg_cmp (S3.2 132 0) r.toInt64 = 0
    rw [hv]
    unfold lg_cmp
    rw [if_neg (by simp), if_pos rfl]
  · exact cx_300_729 _ _ _ (cp_shz (cp_shz (go _ _)))
theorem cr_cons (hb : cr_b N T U R c S) (hL : n + 5 ≤ L) (hL2 : L < 2147483648) (k : ∀ S2 N2 e q5 q6, e ≤ 1 → cr_b N2 T U R c S2 → cf_W (fun b j => cW_n b j || cW_m b j) S S2 → cm_At (am_XX L xs) (d + 7) 300 1907 [some (.ref 1000000), some (.ref 0), some (.ref 83), some (.ref 132), some (.int (Int32.ofNat n)), some (.int q5), some (.int q6), none] [] S2 (cm_sh K e)) :
    cm_At (am_XX L xs) (d + 7) 300 732 [some (.ref 1000000), some (.ref 0), some (.ref 83), some (.ref 132), some (.int (Int32.ofNat n)), o5, o6, none] [] S K := by
  have hsm := ct_vs_sm hb.1
  refine cx_300_732 _ _ _ ?_
  refine ⟨cr_in (j := 1) (by omega) hL2, ?_⟩
  rintro _ rfl
  refine ⟨cr_in (j := 2) (by omega) hL2, ?_⟩
  rintro _ rfl
  refine cq_cons _ _ hb.2.1 hsm (fun S2 e k2 f2 v2 e1 => cp_r1 ?_)
  refine ⟨cr_in (j := 1) (by omega) hL2, ?_⟩
  rintro _ rfl
  refine ⟨cr_in (j := 2) (by omega) hL2, ?_⟩
  rintro _ rfl
  refine cs_cons (d := d + 3) _ _ (cr_cln f2 hb.2.2.1) hsm (fun S3 r k3 e3 r3 f3 => cp_r1 ?_)
  refine cp_172 (d := d + 5) (cp_r1 ?_)
  rw [e3]
  have go : ∀ q5 q6, cm_At (am_XX L xs) (d + 7) 300 1907 [some (.ref 1000000), some (.ref 0), some (.ref 83), some (.ref 132), some (.int (Int32.ofNat n)), some (.int q5), some (.int q6), none] [] S3 (cm_sh K e) := fun q5 q6 => k S3 _ e q5 q6 e1 (cr_b_mk hb (ct_vs_cons _ _ hb.1) k2 f2 k3 f3) (cf_tr (cf_mono f2 (fun b j h => by rw [h]; rfl)) (cf_mono f3 (fun b j h => by rw [h]; exact Bool.or_true _)))
  refine ⟨fun _ => ⟨fun h0 => ⟨cp_in (i := 0) (by decide) (by decide), ?_⟩, fun h0 => ?_⟩, fun h => absurd rfl h⟩
  · rintro _ rfl
    have hz := cr_z (ct_mk_le (by repeat (first | decide | split)) (by decide)) h0
    have hv : S3.2 132 0 = r.toInt64 := by rw [(f3 132 0 (decide_eq_false (by omega))).2, v2 hz, r3 hz]
    refine ⟨fun _ => cx_300_797 _ _ _ (cp_shz (cp_shz (go _ _))), fun h => absurd ?_ h⟩
    show lg_cmp (S3.2 132 0) r.toInt64 = 0
    rw [hv]
    unfold lg_cmp
    rw [if_neg (by simp), if_pos rfl]
  · exact cx_300_797 _ _ _ (cp_shz (cp_shz (go _ _)))
theorem cr_match (hb : cr_b N T U R c S) (hL : n + 5 ≤ L) (hL2 : L < 2147483648) (k : ∀ S2 N2 e q5 q6, e ≤ 1 → cr_b N2 T U R c S2 → cf_W (fun b j => cW_n b j || cW_m b j) S S2 → cm_At (am_XX L xs) (d + 7) 300 1907 [some (.ref 1000000), some (.ref 0), some (.ref 83), some (.ref 132), some (.int (Int32.ofNat n)), some (.int q5), some (.int q6), none] [] S2 (cm_sh K e)) :
    cm_At (am_XX L xs) (d + 7) 300 800 [some (.ref 1000000), some (.ref 0), some (.ref 83), some (.ref 132), some (.int (Int32.ofNat n)), o5, o6, none] [] S K := by
  have hsm := ct_vs_sm hb.1
  refine cx_300_800 _ _ _ ?_
  refine ⟨cr_in (j := 1) (by omega) hL2, ?_⟩
  rintro _ rfl
  refine ⟨cr_in (j := 2) (by omega) hL2, ?_⟩
  rintro _ rfl
  refine ⟨cr_in (j := 3) (by omega) hL2, ?_⟩
  rintro _ rfl
  refine ⟨cr_in (j := 4) (by omega) hL2, ?_⟩
  rintro _ rfl
  refine cq_match _ _ _ _ hb.2.1 hsm (fun S2 e k2 f2 v2 e1 => cp_r1 ?_)
  refine ⟨cr_in (j := 1) (by omega) hL2, ?_⟩
  rintro _ rfl
  refine ⟨cr_in (j := 2) (by omega) hL2, ?_⟩
  rintro _ rfl
  refine ⟨cr_in (j := 3) (by omega) hL2, ?_⟩
  rintro _ rfl
  refine ⟨cr_in (j := 4) (by omega) hL2, ?_⟩
  rintro _ rfl
  refine cs_match (d := d + 3) _ _ _ _ (cr_cln f2 hb.2.2.1) hsm (fun S3 r k3 e3 r3 f3 => cp_r1 ?_)
  refine cp_172 (d := d + 5) (cp_r1 ?_)
  rw [e3]
  have go : ∀ q5 q6, cm_At (am_XX L xs) (d + 7) 300 1907 [some (.ref 1000000), some (.ref 0), some (.ref 83), some (.ref 132), some (.int (Int32.ofNat n)), some (.int q5), some (.int q6), none] [] S3 (cm_sh K e) := fun q5 q6 => k S3 _ e q5 q6 e1 (cr_b_mk hb (ct_vs_match _ _ _ _ hb.1) k2 f2 k3 f3) (cf_tr (cf_mono f2 (fun b j h => by rw [h]; rfl)) (cf_mono f3 (fun b j h => by rw [h]; exact Bool.or_true _)))
  refine ⟨fun _ => ⟨fun h0 => ⟨cp_in (i := 0) (by decide) (by decide), ?_⟩, fun h0 => ?_⟩, fun h => absurd rfl h⟩
  · rintro _ rfl
    have hz := cr_z (ct_mk_le (by repeat (first | decide | split)) (by decide)) h0
    have hv : S3.2 132 0 = r.toInt64 := by rw [(f3 132 0 (decide_eq_false (by omega))).2, v2 hz, r3 hz]
    refine ⟨fun _ => cx_300_889 _ _ _ (cp_shz (cp_shz (go _ _))), fun h => absurd ?_ h⟩
    show lg_cmp (S3.2 132 0) r.toInt64 = 0
    rw [hv]
    unfold lg_cmp
    rw [if_neg (by simp), if_pos rfl]
  · exact cx_300_889 _ _ _ (cp_shz (cp_shz (go _ _)))
theorem cr_test (hb : cr_b N T U R c S) (hL : n + 5 ≤ L) (hL2 : L < 2147483648) (k : ∀ S2 N2 e q5 q6, e ≤ 1 → cr_b N2 T U R c S2 → cf_W (fun b j => cW_n b j || cW_m b j) S S2 → cm_At (am_XX L xs) (d + 7) 300 1907 [some (.ref 1000000), some (.ref 0), some (.ref 83), some (.ref 132), some (.int (Int32.ofNat n)), some (.int q5), some (.int q6), none] [] S2 (cm_sh K e)) :
    cm_At (am_XX L xs) (d + 7) 300 892 [some (.ref 1000000), some (.ref 0), some (.ref 83), some (.ref 132), some (.int (Int32.ofNat n)), o5, o6, none] [] S K := by
  have hsm := ct_vs_sm hb.1
  refine cx_300_892 _ _ _ ?_
  refine ⟨cr_in (j := 1) (by omega) hL2, ?_⟩
  rintro _ rfl
  refine ⟨cr_in (j := 2) (by omega) hL2, ?_⟩
  rintro _ rfl
  refine ⟨cr_in (j := 3) (by omega) hL2, ?_⟩
  rintro _ rfl
  refine cq_test _ _ _ hb.2.1 hsm (fun S2 e k2 f2 v2 e1 => cp_r1 ?_)
  refine ⟨cr_in (j := 1) (by omega) hL2, ?_⟩
  rintro _ rfl
  refine ⟨cr_in (j := 2) (by omega) hL2, ?_⟩
  rintro _ rfl
  refine ⟨cr_in (j := 3) (by omega) hL2, ?_⟩
  rintro _ rfl
  refine cs_test (d := d + 3) _ _ _ (cr_cln f2 hb.2.2.1) hsm (fun S3 r k3 e3 r3 f3 => cp_r1 ?_)
  refine cp_172 (d := d + 5) (cp_r1 ?_)
  rw [e3]
  have go : ∀ q5 q6, cm_At (am_XX L xs) (d + 7) 300 1907 [some (.ref 1000000), some (.ref 0), some (.ref 83), some (.ref 132), some (.int (Int32.ofNat n)), some (.int q5), some (.int q6), none] [] S3 (cm_sh K e) := fun q5 q6 => k S3 _ e q5 q6 e1 (cr_b_mk hb (ct_vs_test _ _ _ hb.1) k2 f2 k3 f3) (cf_tr (cf_mono f2 (fun b j h => by rw [h]; rfl)) (cf_mono f3 (fun b j h => by rw [h]; exact Bool.or_true _)))
  refine ⟨fun _ => ⟨fun h0 => ⟨cp_in (i := 0) (by decide) (by decide), ?_⟩, fun h0 => ?_⟩, fun h => absurd rfl h⟩
  · rintro _ rfl
    have hz := cr_z (ct_mk_le (by repeat (first | decide | split)) (by decide)) h0
    have hv : S3.2 132 0 = r.toInt64 := by rw [(f3 132 0 (decide_eq_false (by omega))).2, v2 hz, r3 hz]
    refine ⟨fun _ => cx_300_969 _ _ _ (cp_shz (cp_shz (go _ _))), fun h => absurd ?_ h⟩
    show lg_cmp (S3.2 132 0) r.toInt64 = 0
    rw [hv]
    unfold lg_cmp
    rw [if_neg (by simp), if_pos rfl]
  · exact cx_300_969 _ _ _ (cp_shz (cp_shz (go _ _)))
theorem cr_centre (hb : cr_b N T U R c S) (hL : n + 5 ≤ L) (hL2 : L < 2147483648) (k : ∀ S2 N2 e q5 q6, e ≤ 1 → cr_b N2 T U R c S2 → cf_W (fun b j => cW_n b j || cW_m b j) S S2 → cm_At (am_XX L xs) (d + 7) 300 1907 [some (.ref 1000000), some (.ref 0), some (.ref 83), some (.ref 132), some (.int (Int32.ofNat n)), some (.int q5), some (.int q6), none] [] S2 (cm_sh K e)) :
    cm_At (am_XX L xs) (d + 7) 300 972 [some (.ref 1000000), some (.ref 0), some (.ref 83), some (.ref 132), some (.int (Int32.ofNat n)), o5, o6, none] [] S K := by
  have hsm := ct_vs_sm hb.1
  refine cx_300_972 _ _ _ ?_
  refine ⟨cr_in (j := 1) (by omega) hL2, ?_⟩
  rintro _ rfl
  refine ⟨cr_in (j := 2) (by omega) hL2, ?_⟩
  rintro _ rfl
  refine cq_centre _ _ hb.2.1 hsm (fun S2 e k2 f2 v2 e1 => cp_r1 ?_)
  refine ⟨cr_in (j := 1) (by omega) hL2, ?_⟩
  rintro _ rfl
  refine ⟨cr_in (j := 2) (by omega) hL2, ?_⟩
  rintro _ rfl
  refine cs_centre (d := d + 3) _ _ (cr_cln f2 hb.2.2.1) hsm (fun S3 r k3 e3 r3 f3 => cp_r1 ?_)
  refine cp_172 (d := d + 5) (cp_r1 ?_)
  rw [e3]
  have go : ∀ q5 q6, cm_At (am_XX L xs) (d + 7) 300 1907 [some (.ref 1000000), some (.ref 0), some (.ref 83), some (.ref 132), some (.int (Int32.ofNat n)), some (.int q5), some (.int q6), none] [] S3 (cm_sh K e) := fun q5 q6 => k S3 _ e q5 q6 e1 (cr_b_mk hb (ct_vs_centre _ _ hb.1) k2 f2 k3 f3) (cf_tr (cf_mono f2 (fun b j h => by rw [h]; rfl)) (cf_mono f3 (fun b j h => by rw [h]; exact Bool.or_true _)))
  refine ⟨fun _ => ⟨fun h0 => ⟨cp_in (i := 0) (by decide) (by decide), ?_⟩, fun h0 => ?_⟩, fun h => absurd rfl h⟩
  · rintro _ rfl
    have hz := cr_z (ct_mk_le (by repeat (first | decide | split)) (by decide)) h0
    have hv : S3.2 132 0 = r.toInt64 := by rw [(f3 132 0 (decide_eq_false (by omega))).2, v2 hz, r3 hz]
    refine ⟨fun _ => cx_300_1037 _ _ _ (cp_shz (cp_shz (go _ _))), fun h => absurd ?_ h⟩
    show lg_cmp (S3.2 132 0) r.toInt64 = 0
    rw [hv]
    unfold lg_cmp
    rw [if_neg (by simp), if_pos rfl]
  · exact cx_300_1037 _ _ _ (cp_shz (cp_shz (go _ _)))
theorem cr_let (hb : cr_b N T U R c S) (hL : n + 5 ≤ L) (hL2 : L < 2147483648) (k : ∀ S2 N2 e q5 q6, e ≤ 1 → cr_b N2 T U R c S2 → cf_W (fun b j => cW_n b j || cW_m b j) S S2 → cm_At (am_XX L xs) (d + 7) 300 1907 [some (.ref 1000000), some (.ref 0), some (.ref 83), some (.ref 132), some (.int (Int32.ofNat n)), some (.int q5), some (.int q6), none] [] S2 (cm_sh K e)) :
    cm_At (am_XX L xs) (d + 7) 300 500 [some (.ref 1000000), some (.ref 0), some (.ref 83), some (.ref 132), some (.int (Int32.ofNat n)), o5, o6, none] [] S K := by
  have hsm := ct_vs_sm hb.1
  refine cx_300_500 _ _ _ ?_
  refine ⟨cr_in (j := 1) (by omega) hL2, ?_⟩
  rintro _ rfl
  refine ⟨cr_in (j := 2) (by omega) hL2, ?_⟩
  rintro _ rfl
  refine ⟨cr_in (j := 3) (by omega) hL2, ?_⟩
  rintro _ rfl
  refine ⟨cr_in (j := 4) (by omega) hL2, ?_⟩
  rintro _ rfl
  refine ⟨fun z0 => ?_, fun z0 => ?_⟩
  · have z0' := z0
    refine cq_let0 _ _ _ 0 rfl hb.2.1 hsm (fun S2 e k2 f2 v2 e1 => cp_r1 ?_)
    refine ⟨cr_in (j := 1) (by omega) hL2, ?_⟩
    rintro _ rfl
    refine ⟨cr_in (j := 2) (by omega) hL2, ?_⟩
    rintro _ rfl
    refine ⟨cr_in (j := 3) (by omega) hL2, ?_⟩
    rintro _ rfl
    refine ⟨cr_in (j := 4) (by omega) hL2, ?_⟩
    rintro _ rfl
    refine ⟨fun _ => ?_, fun h => absurd z0' h⟩
    refine cs_let0 (d := d + 3) _ _ _ 0 rfl (cr_cln f2 hb.2.2.1) hsm (fun S3 r k3 e3 r3 f3 => cp_r1 ?_)
    refine cp_172 (d := d + 5) (cp_r1 ?_)
    rw [e3]
    have go : ∀ q5 q6, cm_At (am_XX L xs) (d + 7) 300 1907 [some (.ref 1000000), some (.ref 0), some (.ref 83), some (.ref 132), some (.int (Int32.ofNat n)), some (.int q5), some (.int q6), none] [] S3 (cm_sh K e) := fun q5 q6 => k S3 _ e q5 q6 e1 (cr_b_mk hb (ct_vs_let0 _ _ _ hb.1) k2 f2 k3 f3) (cf_tr (cf_mono f2 (fun b j h => by rw [h]; rfl)) (cf_mono f3 (fun b j h => by rw [h]; exact Bool.or_true _)))
    refine ⟨fun _ => ⟨fun h0 => ⟨cp_in (i := 0) (by decide) (by decide), ?_⟩, fun h0 => ?_⟩, fun h => absurd rfl h⟩
    · rintro _ rfl
      have hz := cr_z (ct_mk_le (by repeat (first | decide | split)) (by decide)) h0
      have hv : S3.2 132 0 = r.toInt64 := by rw [(f3 132 0 (decide_eq_false (by omega))).2, v2 hz, r3 hz]
      refine ⟨fun _ => cx_300_605 _ _ _ (cp_shz (cp_shz (go _ _))), fun h => absurd ?_ h⟩
      show lg_cmp (S3.2 132 0) r.toInt64 = 0
      rw [hv]
      unfold lg_cmp
      rw [if_neg (by simp), if_pos rfl]
    · exact cx_300_605 _ _ _ (cp_shz (cp_shz (go _ _)))
  · have z0' := z0
    refine cq_let1 _ _ _ 1 (by decide) hb.2.1 hsm (fun S2 e k2 f2 v2 e1 => cp_r1 ?_)
    refine ⟨cr_in (j := 1) (by omega) hL2, ?_⟩
    rintro _ rfl
    refine ⟨cr_in (j := 2) (by omega) hL2, ?_⟩
    rintro _ rfl
    refine ⟨cr_in (j := 3) (by omega) hL2, ?_⟩
    rintro _ rfl
    refine ⟨cr_in (j := 4) (by omega) hL2, ?_⟩
    rintro _ rfl
    refine ⟨fun h => absurd h z0', fun _ => ?_⟩
    refine cs_let1 (d := d + 3) _ _ _ 1 (by decide) (cr_cln f2 hb.2.2.1) hsm (fun S3 r k3 e3 r3 f3 => cp_r1 ?_)
    refine cp_172 (d := d + 5) (cp_r1 ?_)
    rw [e3]
    have go : ∀ q5 q6, cm_At (am_XX L xs) (d + 7) 300 1907 [some (.ref 1000000), some (.ref 0), some (.ref 83), some (.ref 132), some (.int (Int32.ofNat n)), some (.int q5), some (.int q6), none] [] S3 (cm_sh K e) := fun q5 q6 => k S3 _ e q5 q6 e1 (cr_b_mk hb (ct_vs_let1 _ _ _ hb.1) k2 f2 k3 f3) (cf_tr (cf_mono f2 (fun b j h => by rw [h]; rfl)) (cf_mono f3 (fun b j h => by rw [h]; exact Bool.or_true _)))
    refine ⟨fun _ => ⟨fun h0 => ⟨cp_in (i := 0) (by decide) (by decide), ?_⟩, fun h0 => ?_⟩, fun h => absurd rfl h⟩
    · rintro _ rfl
      have hz := cr_z (ct_mk_le (by repeat (first | decide | split)) (by decide)) h0
      have hv : S3.2 132 0 = r.toInt64 := by rw [(f3 132 0 (decide_eq_false (by omega))).2, v2 hz, r3 hz]
      refine ⟨fun _ => cx_300_605 _ _ _ (cp_shz (cp_shz (go _ _))), fun h => absurd ?_ h⟩
      show lg_cmp (S3.2 132 0) r.toInt64 = 0
      rw [hv]
      unfold lg_cmp
      rw [if_neg (by simp), if_pos rfl]
    · exact cx_300_605 _ _ _ (cp_shz (cp_shz (go _ _)))
end CP66
