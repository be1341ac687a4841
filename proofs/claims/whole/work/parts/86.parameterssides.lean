/-! ## 86 the law's cases of parameters, needs, isAbsent: both sides -/
theorem ct_cn_er {R : ct_R} (hb : ct_bi R) {x y : Int32} (hxy : R x y) : ∀ t, ct_wf t → ∀ t2, ct_wf t2 → ct_nws t → ct_er R t t2 → ct_cn x (ct_fl t) = ct_cn y (ct_fl t2) :=
  ct_ind (fun t2 hw2 _ h => by rw [ct_er_lf hw2 h]; rfl) (fun e a b c hw iha ihb ihc t2 hw2 hn h => by
    obtain ⟨f, p, q, r, rfl, h1, h2, h3, h4⟩ := ct_er_el hw2 h
    obtain ⟨w1, w2, w3, w4, w5, w6, w7⟩ := ct_wf_nd hw2
    obtain ⟨n1, n2, n3, n4⟩ := ct_nws_nd hn
    rw [ct_cn_nd, ct_cn_nd, iha p w5 n2 h2, ihb q w6 n3 h3, ihc r w7 n4 h4, ← h1.1]
    refine congrArg (fun z => z + _) ?_
    by_cases k2 : e.1 = 2
    · have h5 : R e.2.2.1 f.2.2.1 := by
        rcases h1.2.2.1 with h5 | h5
        · exact absurd h5.1 (n1.1 (Or.inl k2)).1
        · exact h5.2.2
      by_cases hx : e.2.2.1 = x
      · rw [if_pos ⟨k2, hx⟩, if_pos ⟨k2, by rw [hx] at h5; exact hb.1 _ _ _ h5 hxy⟩]
      · rw [if_neg (fun hc => hx hc.2), if_neg (fun hc => hx (by rw [hc.2] at h5; exact hb.2 _ _ _ h5 hxy))]
    · rw [if_neg (fun hc => k2 hc.1), if_neg (fun hc => k2 hc.1)])
/-- there is such a parameter -/
def ct_dp (T U : Nat → ct_T) (p q : Int32) : Prop := ct_df T p ∧ 0 ≤ q.toInt ∧ q.toInt < (cu_M U p.toNatClampNeg : Int)
theorem ct_dp_of {T U : Nat → ct_T} {p q : Int32} (h : ct_dp T U p q) : ∃ i j, i < 8 ∧ p = Int32.ofNat i ∧ ¬ T i = .leaf ∧ q = Int32.ofNat j ∧ j < cu_M U i := by
  obtain ⟨i, h1, rfl, h2⟩ := ct_df_of h.1
  obtain ⟨j, rfl, h3, h4⟩ := cp_of h.2.1
  have h5 := h.2.2
  rw [cp_cl (by omega), cp_tI h4] at h5
  exact ⟨i, j, h1, rfl, h2, rfl, by omega⟩
def cu_abs (U : Nat → ct_T) (i j : Nat) : Bool := decide (ct_cn (cu_pn j (U i)) (ct_fl (cu_in 4 (U i))) = 0)
section CP86
variable {L : Nat} {xs : Nat → Int32} {d : Nat} {N : List ct_E} {T U : Nat → ct_T} {R : List (Int32 × Int32 × Int32 × Int32)} {c : Nat} {S : cm_S} {K : cm_K} {p q : Int32}
theorem cr_v (hb : cr_b N T U R c S) : cv_v S T (fun i => ct_pre (U i)) := by
  obtain ⟨g1, g2, g3, g4, g5, g6, g7, g8, g9, g10, g11, g12, g13, g14⟩ := hb
  refine ⟨g8, fun g hg => ?_⟩
  by_cases hl : U g = .leaf
  · have hp : ct_pre (U g) = .leaf := by rw [hl]; rfl
    dsimp only
    rw [hp, g11 g hg, hl]
    exact ⟨trivial, Iff.rfl, (fun e he => by cases he), (fun e he => by cases he), (fun e he => by cases he), Nat.zero_le _, fun hn => absurd rfl hn⟩
  · obtain ⟨hco, hcan⟩ := g10 g hg hl
    obtain ⟨hpc, _, hpp⟩ := ct_pre_co hco
    obtain ⟨h1, h2⟩ := g7 g hg hl
    refine ⟨hpc.1, (g11 g hg).trans (ct_map_lf hco.1).symm, hpc.2.2.2.2.2.2.1, fun e he => ?_, hpc.2.2.1, hpc.2.2.2.2.2.2.2, fun _ => ⟨_, by rw [h1]; exact h2⟩⟩
    rcases (cu_ok_pre hpc hpp e he).1 with h | h
    · exact Or.inl h
    · exact Or.inr ⟨h.1, by omega⟩
/-- what the model has found -/
def cv_fd (S : cm_S) (U : Nat → ct_T) : Prop := ∀ g, g < 8 → S.1 108 g = Int32.ofNat (cu_M U g) ∧ (∀ k, k < cu_M U g → S.1 109 (4 * g + k) = cu_pn k (ct_pre (U g)) ∧ S.1 111 (4 * g + k) = if cu_lim U g k = true then 1 else 0) ∧ (¬ U g = .leaf → ∃ fq, cl_t S (cu_in 4 (ct_pre (U g))) (S.1 110 g) fq)
theorem cr_243 (hb : cr_b N T U R c S) (k : ∀ S2, cf_W cW_fi S S2 → cv_fd S2 U → K (.inl none) S2 0) : cm_At (am_XX L xs) (d + 455) 243 0 [some (.ref 83), none, none, none, none] [] S K := by
  have hU : ct_ds U := hb.2.2.2.2.2.2.2.2.2.1
  refine cp_243 (cr_v hb) (fun S2 c2 h2 => k S2 c2 (fun g hg => ?_))
  obtain ⟨⟨f1, f2, f3⟩, f4⟩ := h2 g hg
  rw [show cu_M (fun i => ct_pre (U i)) g = cu_M U g by rw [cu_M_pre]] at f1 f2
  refine ⟨f1, fun kk hkk => ⟨f2 kk hkk, ?_⟩, fun hl => f3 (fun hc => hl ((ct_map_lf (ct_ds_wf hU g hg)).mp hc))⟩
  have := f4 kk (by rw [cu_M_pre]; exact hkk)
  rw [show cu_lim (fun i => ct_pre (U i)) = cu_lim U from cu_it_pre hU 32] at this
  exact this
/-- the class refuses where there is no such parameter -/
theorem cp_159 (h1 : ck_d S 21 T) (h2 : ck_d S 27 U) (hT : ∀ i, i < 8 → ct_wf (T i) ∧ ct_wf (U i) ∧ (T i = .leaf ↔ U i = .leaf)) (k1 : ct_dp T U p q → K (.inl none) S 0) (k2 : ¬ ct_dp T U p q → K (.inr 0) S 1) : cm_At (am_XX L xs) (d + 4) 159 0 [some (.ref 0), some (.int p), some (.int q)] [] S K := by
  refine cx_159_0 _ _ ?_
  refine cp_158 h1 (fun i hi => (hT i hi).1) (fun h => cp_r0 ?_) (fun h => cp_x0 (k2 (fun hc => h hc.1)))
  refine ⟨fun hq => k2 (fun hc => ?_), fun hq => ?_⟩
  · rw [cp_lt0] at hq; have := hc.2.1; omega
  · obtain ⟨i, hi, rfl, ht⟩ := ct_df_of h
    rw [cp_lt0] at hq
    obtain ⟨j, rfl, hj, hj2⟩ := cp_of (p := q) (by omega)
    refine cp_165 (cp_r1 ?_)
    rw [cp_rt]
    refine cp_32U h2 (fun i hi => (hT i hi).2.1) hi (cp_r1 ?_)
    have hM := cu_M_le (U := U) (g := i)
    rw [cp_lt hj2 (by omega)]
    refine ⟨fun hlt => k1 ⟨h, by rw [cp_tI hj2]; omega, ?_⟩, fun hlt => k2 (fun hc => hlt ?_)⟩
    · rw [cp_cl (by omega), cp_tI hj2]; omega
    · have := hc.2.2
      rw [cp_cl (by omega), cp_tI hj2] at this
      omega
theorem cq_parameters (h1 : ck_d S 21 T) (h2 : ck_d S 27 U) (hT : ∀ i, i < 8 → ct_wf (T i) ∧ ct_wf (U i) ∧ (T i = .leaf ↔ U i = .leaf)) (k1 : ∀ i S2, i < 8 → p = Int32.ofNat i → ¬ T i = .leaf → S2.2 132 0 = (Int32.ofNat (cu_M U i)).toInt64 → cf_W cW_o S S2 → K (.inl (some (.int 0))) S2 0) (k2 : ¬ ct_df T p → K (.inl (some (.int 1))) S 1) :
    cm_At (am_XX L xs) (d + 5) 292 0 [some (.ref 0), some (.int p), some (.ref 132), none] [] S K := by
  refine cx_292_0 p ?_
  refine cx_147_0 p ?_
  refine cp_158 h1 (fun i hi => (hT i hi).1) (fun h => cp_r0 ?_) (fun h => cp_x0 ?_)
  · obtain ⟨i, hi, rfl, ht⟩ := ct_df_of h
    refine cp_165 (cp_r1 ?_)
    rw [cp_rt]
    refine cp_32U h2 (fun i hi => (hT i hi).2.1) hi (cp_r1 ?_)
    try dsimp only [cm_sh]
    refine cp_r1 ?_
    refine ⟨cp_in (i := 0) (by decide) (by decide), ?_⟩
    rintro _ rfl
    exact k1 i _ hi rfl ht (by rw [cp_wJ2]; exact if_pos ⟨rfl, rfl⟩) (cf_wJ (decide_eq_true ⟨rfl, rfl⟩))
  · try dsimp only [cm_sh]
    refine cp_x1 ?_
    exact ⟨by decide, fun _ => k2 h, fun h => absurd h (by decide), fun h => absurd h (by decide)⟩
def cW_on (b j : Nat) : Bool := cW_dd b j || cW_o b j
theorem cq_needs (h1 : ck_d S 21 T) (h2 : ck_d S 27 U) (hU : ct_ds U) (hT : ∀ i, i < 8 → ct_wf (T i) ∧ ct_wf (U i) ∧ (T i = .leaf ↔ U i = .leaf)) (k1 : ∀ i j S2, i < 8 → p = Int32.ofNat i → ¬ T i = .leaf → q = Int32.ofNat j → j < cu_M U i → S2.2 132 0 = (if cu_lim U i j = true then 1 else 0) → cf_W cW_on S S2 → K (.inl (some (.int 0))) S2 0) (k2 : ¬ ct_dp T U p q → K (.inl (some (.int 1))) S 1) :
    cm_At (am_XX L xs) (d + 9) 293 0 [some (.ref 0), some (.int p), some (.int q), some (.ref 132), none] [] S K := by
  refine cx_293_0 p q ?_
  refine cx_148_0 p q ?_
  refine cp_159 (d := d + 3) h1 h2 hT (fun h => cp_r0 ?_) (fun h => cp_x0 ?_)
  · obtain ⟨i, j, hi, rfl, ht, rfl, hj⟩ := ct_dp_of h
    have hM := cu_M_le (U := U) (g := i)
    refine cp_35 hU h2 (fun S2 c2 _ q2 => cp_r0 ?_)
    refine cx_38_0 _ _ ?_
    refine cp_166 (by decide) (cp_r1 ?_)
    rw [cp_g_at (by rw [cu_rl.2.2.1]; exact hi) (by decide +kernel), q2 i hi, cu_mk_b (by omega)]
    have hw : cf_W cW_on S S2 := cf_mono c2 (fun b j h => by unfold cW_on; rw [h]; rfl)
    refine ⟨fun hb => ⟨Or.inr rfl, ?_⟩, fun hb => ⟨Or.inl rfl, ?_⟩⟩
    · try dsimp only [cm_sh]
      refine cp_r1 ⟨Or.inr rfl, ?_⟩
      try dsimp only [cm_sh]
      refine cp_r1 ⟨fun h => absurd h (by decide), fun _ => ⟨cp_in (i := 0) (by decide) (by decide), ?_⟩⟩
      rintro _ rfl
      exact k1 i j _ hi rfl ht rfl hj (by rw [cp_wJ2, if_pos hb]; exact if_pos ⟨rfl, rfl⟩) (cf_tr hw (cf_wJ (by decide)))
    · try dsimp only [cm_sh]
      refine cp_r1 ⟨Or.inl rfl, ?_⟩
      try dsimp only [cm_sh]
      refine cp_r1 ⟨fun _ => ⟨cp_in (i := 0) (by decide) (by decide), ?_⟩, fun h => absurd rfl h⟩
      rintro _ rfl
      exact k1 i j _ hi rfl ht rfl hj (by rw [cp_wJ2, if_neg hb]; exact if_pos ⟨rfl, rfl⟩) (cf_tr hw (cf_wJ (by decide)))
  · try dsimp only [cm_sh]
    refine cp_x1 ?_
    try dsimp only [cm_sh]
    exact ⟨by decide, fun _ => k2 h, fun h => absurd h (by decide), fun h => absurd h (by decide)⟩
theorem cq_isAbsent (h1 : ck_d S 21 T) (h2 : ck_d S 27 U) (hU : ct_ds U) (hT : ∀ i, i < 8 → ct_wf (T i) ∧ ct_wf (U i) ∧ (T i = .leaf ↔ U i = .leaf)) (k1 : ∀ i j S2, i < 8 → p = Int32.ofNat i → ¬ T i = .leaf → q = Int32.ofNat j → j < cu_M U i → S2.2 132 0 = (if cu_abs U i j = true then 1 else 0) → cf_W cW_o S S2 → K (.inl (some (.int 0))) S2 0) (k2 : ¬ ct_dp T U p q → K (.inl (some (.int 1))) S 1) :
    cm_At (am_XX L xs) (d + 6) 294 0 [some (.ref 0), some (.int p), some (.int q), some (.ref 132), none] [] S K := by
  refine cx_294_0 p q ?_
  refine cx_149_0 p q ?_
  refine cp_159 h1 h2 hT (fun h => cp_r0 ?_) (fun h => cp_x0 ?_)
  · obtain ⟨i, j, hi, rfl, ht, rfl, hj⟩ := ct_dp_of h
    have hu : ¬ U i = .leaf := fun hc => ht ((hT i hi).2.2.mpr hc)
    obtain ⟨hco, hcan⟩ := hU i hi hu
    refine cp_165 (cp_r1 ?_)
    rw [cp_rt]
    refine cp_32U h2 (fun i hi => (hT i hi).2.1) hi (cp_r1 ?_)
    rw [cp_ad]
    obtain ⟨t1, t2⟩ := ck_t_in 4 (U i) hco.1 (150 * i) hu ((h2 i hi).2 hu)
    refine cp_25 (by decide) (cu_in_wf 4 _ hco.1) t2 t1 (cp_r1 ?_)
    have hM := cu_M_le (U := U) (g := i)
    have hle := Nat.le_trans (ct_cn_le (x := Int32.ofNat j) (ct_fl (cu_in 4 (U i)))) (by rw [ct_fl_len]; exact Nat.le_trans (cu_in_sz 4 _ hco.1) hco.2.2.2.2.2.2.2)
    have hz : Int32.ofNat (ct_cn (Int32.ofNat j) (ct_fl (cu_in 4 (U i)))) = 0 ↔ cu_abs U i j = true := by
      unfold cu_abs
      rw [cu_pn_can hco hcan hj, decide_eq_true_eq, show (0 : Int32) = Int32.ofNat 0 from rfl, cp_inj (by omega) (by omega)]
    rw [hz]
    refine ⟨fun hb => ⟨Or.inr rfl, ?_⟩, fun hb => ⟨Or.inl rfl, ?_⟩⟩
    · try dsimp only [cm_sh]
      refine cp_r1 ⟨fun h => absurd h (by decide), fun _ => ⟨cp_in (i := 0) (by decide) (by decide), ?_⟩⟩
      rintro _ rfl
      exact k1 i j _ hi rfl ht rfl hj (by rw [cp_wJ2, if_pos hb]; exact if_pos ⟨rfl, rfl⟩) (cf_wJ (by decide))
    · try dsimp only [cm_sh]
      refine cp_r1 ⟨fun _ => ⟨cp_in (i := 0) (by decide) (by decide), ?_⟩, fun h => absurd rfl h⟩
      rintro _ rfl
      exact k1 i j _ hi rfl ht rfl hj (by rw [cp_wJ2, if_neg hb]; exact if_pos ⟨rfl, rfl⟩) (cf_wJ (by decide))
  · try dsimp only [cm_sh]
    refine cp_x1 ?_
    try dsimp only [cm_sh]
    exact ⟨by decide, fun _ => k2 h, fun h => absurd h (by decide), fun h => absurd h (by decide)⟩
def cW_fj (b j : Nat) : Bool := cW_fi b j || decide (b = 83 ∧ j = 75)
theorem cs_parameters (hb : cr_b N T U R c S) (k1 : ∀ i S2, i < 8 → p = Int32.ofNat i → ¬ T i = .leaf → S2.1 83 75 = 0 → cf_W cW_fj S S2 → K (.inl (some (.int (Int32.ofNat (cu_M U i))))) S2 0) (k2 : ¬ ct_df T p → K (.inl (some (.int 0))) (cm_wI S 83 75 1) 0) :
    cm_At (am_XX L xs) (d + 456) 245 0 [some (.ref 83), some (.int p)] [] S K := by
  obtain ⟨g1, g2, g3, g4, g5, g6, g7, g8, g9, g10, g11, g12, g13, g14⟩ := id hb
  refine cx_245_0 _ ?_
  refine cp_178 (d := d + 452) g8 (fun h => cp_r1 ⟨fun h => absurd h (by decide), fun _ => ?_⟩) (fun h => cp_r1 ⟨fun _ => ?_, fun h => absurd rfl h⟩)
  · obtain ⟨i, hi, rfl, ht⟩ := ct_df_of h
    refine cp_173 (cp_r1 ?_)
    rw [if_pos rfl]
    refine ⟨fun h => absurd h (by decide), fun _ => ?_⟩
    have c1 : cf_W cW_fj S (cm_wI S 83 75 0) := cf_wI (by decide)
    refine cr_243 (cr_b_fr (cf_wI (by decide)) hb) (fun S2 c2 h2 => cp_r0 ⟨cp_in hi (by decide), ?_⟩)
    rintro _ rfl
    rw [cp_cl (by omega), (h2 i hi).1]
    refine k1 i S2 hi rfl ht ?_ (cf_tr c1 (cf_mono c2 (fun b j h => by unfold cW_fj; rw [h]; rfl)))
    rw [(c2 83 75 (by decide)).1, cp_wI1, if_pos ⟨rfl, rfl⟩]
  · refine cp_173 (cp_r1 ?_)
    rw [if_neg (by decide)]
    exact ⟨fun _ => k2 h, fun h => absurd rfl h⟩
/-- the model asks for a parameter -/
theorem cs_asks (hb : cr_b N T U R c S) (k1 : ∀ i j S2, i < 8 → p = Int32.ofNat i → ¬ T i = .leaf → q = Int32.ofNat j → j < cu_M U i → S2.1 83 75 = 0 → cv_fd S2 U → cf_W cW_fj S S2 → K (.inl (some (.int 1))) S2 0) (k2 : ∀ S2, ¬ ct_dp T U p q → S2.1 83 75 = 1 → cf_W cW_fj S S2 → K (.inl (some (.int 0))) S2 0) :
    cm_At (am_XX L xs) (d + 456) 244 0 [some (.ref 83), some (.int p), some (.int q), none] [] S K := by
  obtain ⟨g1, g2, g3, g4, g5, g6, g7, g8, g9, g10, g11, g12, g13, g14⟩ := id hb
  refine cx_244_0 _ _ ?_
  refine cp_178 (d := d + 452) g8 (fun h => cp_r1 ⟨fun h => absurd h (by decide), fun _ => ?_⟩) (fun h => cp_r1 ⟨fun _ => ⟨fun _ => ?_, fun h => absurd rfl h⟩, fun h => absurd rfl h⟩)
  · obtain ⟨i, hi, rfl, ht⟩ := ct_df_of h
    refine cr_243 hb (fun S2 c2 h2 => cp_r0 ⟨fun h => absurd h (by decide), fun _ => ⟨cp_in hi (by decide), ?_⟩⟩)
    rintro _ rfl
    have hM := cu_M_le (U := U) (g := i)
    have c2' : cf_W cW_fj S S2 := cf_mono c2 (fun b j h => by unfold cW_fj; rw [h]; rfl)
    rw [cp_cl (by omega), (h2 i hi).1]
    have hM1 : ((cu_M U i : Int)) - 1 = (Int32.ofNat (cu_M U i) - 1).toInt := by
      have h3 : ∀ m : Fin 5, ((m.val : Int)) - 1 = (Int32.ofNat m.val - 1).toInt := by decide +kernel
      exact h3 ⟨cu_M U i, by omega⟩
    refine cp_174k (b := (cu_M U i : Int)) hM1 rfl (fun hq => cp_r1 ⟨fun h => absurd h (by decide), fun _ => ?_⟩) (fun hq => cp_r1 ⟨fun _ => ?_, fun h => absurd rfl h⟩)
    · obtain ⟨j, rfl, hj, hj2⟩ := cp_of hq.1
      rw [cp_tI hj2] at hq
      refine cp_173 (cp_r1 ?_)
      rw [if_pos rfl]
      refine ⟨Or.inr rfl, ?_⟩
      refine k1 i j (cm_wI S2 83 75 0) hi rfl ht rfl (by omega) (by rw [cp_wI1, if_pos ⟨rfl, rfl⟩]) (fun g hg => ?_) (cf_tr c2' (cf_wI (by decide)))
      have cw : cf_W (fun b j => decide (b = 83 ∧ j = 75)) S2 (cm_wI S2 83 75 0) := cf_wI (by decide)
      obtain ⟨f1, f2, f3⟩ := h2 g hg
      refine ⟨by rw [cp_wI1, if_neg (by omega)]; exact f1, fun k hk => by rw [cp_wI1, if_neg (by omega), cp_wI1, if_neg (by omega)]; exact f2 k hk, fun hl => ?_⟩
      obtain ⟨fq, hfq⟩ := f3 hl
      rw [cp_wI1, if_neg (by omega)]
      exact ⟨fq, cl_t_fr cw (fun b j q1 q2 => decide_eq_false (by omega)) (cu_in_wf 4 _ (ct_map_wf _ (ct_ds_wf g10 g hg))) hfq⟩
    · refine cp_173 (cp_r1 ?_)
      rw [if_neg (by decide)]
      refine ⟨Or.inl rfl, k2 (cm_wI S2 83 75 1) (fun hc => hq ?_) (by rw [cp_wI1, if_pos ⟨rfl, rfl⟩]) (cf_tr c2' (cf_wI (by decide)))⟩
      have h4 := hc.2.2
      rw [cp_cl (by omega)] at h4
      exact ⟨hc.2.1, h4⟩
  · refine cp_173 (cp_r1 ?_)
    rw [if_neg (by decide)]
    exact ⟨Or.inl rfl, k2 (cm_wI S 83 75 1) (fun hc => h hc.1) (by rw [cp_wI1, if_pos ⟨rfl, rfl⟩]) (cf_wI (by decide))⟩
theorem cs_needs (hb : cr_b N T U R c S) (k1 : ∀ i j S2, i < 8 → p = Int32.ofNat i → ¬ T i = .leaf → q = Int32.ofNat j → j < cu_M U i → S2.1 83 75 = 0 → cf_W cW_fj S S2 → K (.inl (some (.int (if cu_lim U i j = true then 1 else 0)))) S2 0) (k2 : ∀ S2, ¬ ct_dp T U p q → S2.1 83 75 = 1 → cf_W cW_fj S S2 → K (.inl (some (.int 0))) S2 0) :
    cm_At (am_XX L xs) (d + 457) 246 0 [some (.ref 83), some (.int p), some (.int q)] [] S K := by
  refine cx_246_0 _ _ ?_
  refine cs_asks hb (fun i j S2 hi hp ht hq hj r75 hf c2 => cp_r1 ⟨fun h => absurd h (by decide), fun _ => ?_⟩) (fun S2 hd r75 c2 => cp_r1 ⟨fun _ => ⟨Or.inl rfl, k2 S2 hd r75 c2⟩, fun h => absurd rfl h⟩)
  have hM := cu_M_le (U := U) (g := i)
  have kk := k1 i j S2 hi hp ht hq hj r75 c2
  subst hp
  subst hq
  rw [show (4 : Int32) * Int32.ofNat i + Int32.ofNat j = Int32.ofNat (4 * i + j) by rw [show (4 : Int32) = Int32.ofNat 4 from rfl, cp_ml, cp_ad]]
  refine ⟨cp_in (by omega) (by decide), ?_⟩
  rintro _ rfl
  rw [cp_cl (by omega), ((hf i hi).2.1 j hj).2]
  cases hl : cu_lim U i j with
  | true =>
    rw [hl, if_pos rfl] at kk
    rw [if_pos rfl]
    exact ⟨fun h => absurd h (by decide), fun _ => ⟨Or.inr rfl, kk⟩⟩
  | false =>
    rw [hl, if_neg (by decide)] at kk
    rw [if_neg (by decide)]
    exact ⟨fun _ => ⟨Or.inl rfl, kk⟩, fun h => absurd rfl h⟩
theorem cs_isAbsent (hb : cr_b N T U R c S) (k1 : ∀ i j S2, i < 8 → p = Int32.ofNat i → ¬ T i = .leaf → q = Int32.ofNat j → j < cu_M U i → S2.1 83 75 = 0 → cf_W cW_fj S S2 → K (.inl (some (.int (if cu_abs U i j = true then 1 else 0)))) S2 0) (k2 : ∀ S2, ¬ ct_dp T U p q → S2.1 83 75 = 1 → cf_W cW_fj S S2 → K (.inl (some (.int 0))) S2 0) :
    cm_At (am_XX L xs) (d + 457) 247 0 [some (.ref 83), some (.int p), some (.int q)] [] S K := by
  have hU : ct_ds U := hb.2.2.2.2.2.2.2.2.2.1
  have hTU : ∀ i, i < 8 → (T i = .leaf ↔ U i = .leaf) := hb.2.2.2.2.2.2.2.2.2.2.1
  refine cx_247_0 _ _ ?_
  refine cs_asks hb (fun i j S2 hi hp ht hq hj r75 hf c2 => cp_r1 ⟨fun h => absurd h (by decide), fun _ => ?_⟩) (fun S2 hd r75 c2 => cp_r1 ⟨fun _ => ⟨Or.inl rfl, k2 S2 hd r75 c2⟩, fun h => absurd rfl h⟩)
  have hM := cu_M_le (U := U) (g := i)
  have kk := k1 i j S2 hi hp ht hq hj r75 c2
  subst hp
  subst hq
  have hu : ¬ U i = .leaf := fun hc => ht ((hTU i hi).mpr hc)
  obtain ⟨hco, hcan⟩ := hU i hi hu
  rw [show (4 : Int32) * Int32.ofNat i + Int32.ofNat j = Int32.ofNat (4 * i + j) by rw [show (4 : Int32) = Int32.ofNat 4 from rfl, cp_ml, cp_ad]]
  refine ⟨cp_in hi (by decide), ?_⟩
  rintro _ rfl
  refine ⟨cp_in (by omega) (by decide), ?_⟩
  rintro _ rfl
  rw [cp_cl (by omega), cp_cl (by omega), ((hf i hi).2.1 j hj).1]
  obtain ⟨fq, hfq⟩ := (hf i hi).2.2 hu
  have hwp : ct_wf (ct_pre (U i)) := ct_map_wf _ hco.1
  have hszp : ct_sz (cu_in 4 (ct_pre (U i))) ≤ 150 := Nat.le_trans (cu_in_sz 4 _ hwp) (by unfold ct_pre; rw [ct_map_sz]; exact hco.2.2.2.2.2.2.2)
  have hlen := (ct_co_len hco).1
  obtain ⟨hbi, her, hnb⟩ := ct_fr_er hco (n := 0) (B := ct_bl (ct_fl (U i))) (fun x => Iff.rfl) (by omega)
  have hcn := ct_cn_er hbi (cu_pn_er 4 (U i) hco.1 (ct_pre (U i)) hwp hco.2.2.1 her j hj) _ (cu_in_wf 4 _ hco.1) _ (cu_in_wf 4 _ hwp) (fun e he => hco.2.2.1 e (cu_in_sub 4 _ hco.1 e he)) (cu_in_er 4 _ hco.1 _ hwp her)
  have h205 := cp_205 (L := L) (xs := xs) (x := cu_pn j (ct_pre (U i))) (S := S2) (cu_in 4 (ct_pre (U i))) (cu_in_wf 4 _ hwp) (d + 455 - ct_sz (cu_in 4 (ct_pre (U i)))) (S2.1 110 i) fq
  rw [show d + 455 - ct_sz (cu_in 4 (ct_pre (U i))) + ct_sz (cu_in 4 (ct_pre (U i))) + 1 = d + 456 by omega] at h205
  refine h205 _ hfq (cp_r1 ?_)
  have hle := Nat.le_trans (ct_cn_le (x := cu_pn j (U i)) (ct_fl (cu_in 4 (U i)))) (by rw [ct_fl_len]; exact Nat.le_trans (cu_in_sz 4 _ hco.1) hco.2.2.2.2.2.2.2)
  rw [← hcn]
  have hz : Int32.ofNat (ct_cn (cu_pn j (U i)) (ct_fl (cu_in 4 (U i)))) = 0 ↔ cu_abs U i j = true := by
    unfold cu_abs
    rw [decide_eq_true_eq, show (0 : Int32) = Int32.ofNat 0 from rfl, cp_inj (by omega) (by omega)]
  rw [hz]
  refine ⟨fun hb => ⟨Or.inr rfl, ?_⟩, fun hb => ⟨Or.inl rfl, ?_⟩⟩
  · rw [if_pos hb] at kk
    exact kk
  · rw [if_neg hb] at kk
    exact kk
end CP86
