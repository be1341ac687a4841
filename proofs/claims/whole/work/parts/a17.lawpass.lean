/-! ## a17 the law's case of a pass -/
section CPa17
variable {L : Nat} {xs : Nat → Int32} {d : Nat} {N : List ct_E} {T U : Nat → ct_T} {R : List (Int32 × Int32 × Int32 × Int32)} {c n : Nat} {S : cm_S} {K : cm_K} {o5 o6 : Option Value}
/-- what a pass of the model starts from -/
def cl_b (T U : Nat → ct_T) (R : List (Int32 × Int32 × Int32 × Int32)) (c : Nat) (S : cm_S) : Prop := cl_d S 8 1200 U ∧ cl_i S T ∧ ct_ds U ∧ (∀ i, i < 8 → (T i = .leaf ↔ U i = .leaf)) ∧ cl_r S R ∧ cl_cs S c
theorem cl_b_cf {W : Nat → Nat → Bool} {S S2 : cm_S} (hc : cf_W W S S2) (hd : ∀ b j, (92 ≤ b ∧ b ≤ 98 ∧ 1200 ≤ j ∧ j < 2400 ∨ b = 101 ∨ b = 102 ∨ b = 103 ∧ 8 ≤ j ∧ j < 16 ∨ 104 ≤ b ∧ b ≤ 107 ∨ b = 83 ∧ (j = 23 ∨ j = 26)) → W b j = false) (h : cl_b T U R c S) : cl_b T U R c S2 :=
  ⟨cl_d_fr h.2.2.1 hc (fun j hj => hd _ _ (by omega)) (fun b x q1 q2 q3 q4 => hd _ _ (by omega)) h.1, cl_i_cf hc (fun j => hd _ _ (by omega)) h.2.1, h.2.2.1, h.2.2.2.1, cl_r_cf hc (hd _ _ (by omega)) (fun b j q1 q2 => hd _ _ (by omega)) h.2.2.2.2.1, cl_cs_f hc (hd _ _ (by omega)) (fun j => hd _ _ (by omega)) h.2.2.2.2.2⟩
theorem cl_b_v (hb : cl_b T U R c S) : cv_v S T (fun i => ct_pre (U i)) := by
  obtain ⟨g7, g8, g10, g11, g13, g14⟩ := hb
  refine ⟨g8, fun g hg => ?_⟩
  by_cases hl : U g = .leaf
  · have hp : ct_pre (U g) = .leaf := by rw [hl]; rfl
    dsimp only
    rw [hp, g11 g hg, hl]
    exact ⟨trivial, Iff.rfl, (fun e he => by cases he), (fun e he => by cases he), (fun e he => by cases he), Nat.zero_le _, fun hn => absurd rfl hn⟩
  · obtain ⟨hco, hcan⟩ := g10 g hg hl
    obtain ⟨hpc, _, hpp⟩ := ct_pre_co hco
    obtain ⟨h1, h2⟩ := g7 g hg hl
    refine ⟨hpc.1, (g11 g hg).trans (ct_map_lf hco.1).symm, hpc.2.2.2.2.2.2.1, fun e he => ?_, hpc.2.2.1, hpc.2.2.2.2.2.2.2, fun _ => ⟨_, by rw [h1]; exact h2⟩⟩
    rcases (cu_ok_pre hpc hpp e he).1 with h | h
    · exact Or.inl h
    · exact Or.inr ⟨h.1, by omega⟩
/-- a pass of the model, from its start -/
theorem cs_pass {p : Int32} (hb : cl_b T U R c S) (hRk : ∀ q, q ∈ R → ct_rok q) (hc : c + 200000 < 2000000000)
    (k1 : ¬ (0 ≤ p.toInt ∧ p.toInt < 8) → K (.inl (some (.int 0))) (cm_wI S 83 75 1) 0)
    (k2 : ∀ ps, p = Int32.ofNat ps → ps < 8 → (∃ j, j < 8 ∧ dt_p2 U R ps j = none) → ∀ S2 c2, S2.1 83 75 = 2 → c ≤ c2 → c2 ≤ c + 200000 → cl_cs S2 c2 → cf_W cW_ps S S2 → K (.inl (some (.int 0))) S2 0)
    (k3 : ∀ ps, p = Int32.ofNat ps → ps < 8 → (∀ j, j < 8 → ∃ r, dt_p2 U R ps j = some r) → ∀ S2 c2, S2.1 83 75 = 0 → c ≤ c2 → c2 ≤ c + 200000 → cl_cs S2 c2 → (∀ j, j < 8 → ¬ U j = .leaf → cl_sl S2 8 1200 j (dt_V (dt_p2 U R ps) j)) → cf_W cW_pn S S2 → K (.inl (some (.int (Int32.ofNat (dt_ks (dt_p2 U R ps) 8))))) S2 0) :
    cm_At (am_XX L xs) (d + 662) 231 0 [some (.ref 83), some (.int p), none, none] [] S K := by
  refine cx_231_0 _ ?_
  refine cp_174k (b := 8) rfl rfl (fun hp => cp_r1 ?_) (fun hp => cp_r1 ?_)
  rotate_left
  · refine ⟨fun _ => ?_, fun h => absurd rfl h⟩
    refine cp_173 (cp_r1 ?_)
    exact ⟨fun _ => k1 hp, fun h => absurd rfl h⟩
  refine ⟨fun h => absurd h (by decide), fun _ => ?_⟩
  obtain ⟨ps, rfl, hps, _⟩ := cp_of hp.1
  have hps8 : ps < 8 := by omega
  refine cp_173 (cp_r1 ?_)
  refine ⟨fun h => absurd h (by decide), fun _ => ?_⟩
  rintro _ rfl
  refine ⟨Or.inl rfl, ?_⟩
  rintro _ rfl
  rintro _ rfl
  have f1 : cf_W (fun b j => decide (b = 83 ∧ (j = 75 ∨ j = 31 ∨ j = 32 ∨ j = 33))) S (cm_wI (cm_wI (cm_wI (cm_wI S 83 75 0) 83 31 0) 83 32 0) 83 33 (Int32.ofNat ps - 5)) := cf_tr (cf_wI (decide_eq_true (by omega))) (cf_tr (cf_wI (decide_eq_true (by omega))) (cf_tr (cf_wI (decide_eq_true (by omega))) (cf_wI (decide_eq_true (by omega)))))
  have v1 : (cm_wI (cm_wI (cm_wI (cm_wI S 83 75 0) 83 31 0) 83 32 0) 83 33 (Int32.ofNat ps - 5)).1 83 31 = 0 ∧ (cm_wI (cm_wI (cm_wI (cm_wI S 83 75 0) 83 31 0) 83 32 0) 83 33 (Int32.ofNat ps - 5)).1 83 32 = 0 ∧ (cm_wI (cm_wI (cm_wI (cm_wI S 83 75 0) 83 31 0) 83 32 0) 83 33 (Int32.ofNat ps - 5)).1 83 33 = Int32.ofNat ps - 5 := by
    simp [cp_wI1]
  generalize cm_wI (cm_wI (cm_wI (cm_wI S 83 75 0) 83 31 0) 83 32 0) 83 33 (Int32.ofNat ps - 5) = S1 at f1 v1 ⊢
  have hb1 : cl_b T U R c S1 := cl_b_cf f1 (fun b j h => decide_eq_false (by omega)) hb
  have hUd := hb.2.2.1
  refine cp_243 (d := d + 206) (cl_b_v hb1) (fun S2 f2 hfd => cp_r0 ?_)
  have hb2 : cl_b T U R c S2 := cl_b_cf f2 (fun b j h => decide_eq_false (by omega)) hb1
  obtain ⟨b7, b8, b10, b11, b13, b14⟩ := id hb2
  have hiU : cl_i S2 U := fun i hi => ⟨fun hl => (b8 i hi).1 ((b11 i hi).mpr hl), fun hl => (b8 i hi).2 (fun hc => hl ((b11 i hi).mp hc))⟩
  have hk : dm_k S2 T U R (cu_lim U) ps := by
    refine ⟨⟨b7, hiU⟩, b13, by rw [(f2 83 33 (decide_eq_false (by omega))).1]; exact v1.2.2, b8, fun g hg => ?_⟩
    obtain ⟨⟨h1, h2, h3⟩, h4⟩ := hfd g hg
    refine ⟨h1, fun hl => ?_, fun k hk => ?_⟩
    · rw [cu_M_pre]
      unfold cu_M
      rw [(b11 g hg).mp hl, ct_pd_lf]
    · have := h4 k hk
      rw [show cu_lim (fun i => ct_pre (U i)) = cu_lim U from cu_it_pre hUd 32] at this
      exact this
  simp only [dk_sh0]
  have fS2 : cf_W cW_ps S S2 := cf_tr (cf_mono f1 (fun b j h => decide_eq_true (by have h := of_decide_eq_true h; omega))) (cf_mono f2 (fun b j h => decide_eq_true (by have h := of_decide_eq_true h; omega)))
  refine cp_231l (d := d + 2) (T := T) rfl hps8 b10 hRk 8 0 c S2 none K (by omega) hk (by rw [(f2 83 32 (decide_eq_false (by omega))).1]; exact v1.2.1) (by rw [(f2 83 31 (decide_eq_false (by omega))).1]; exact v1.1) b14 (by omega) (fun j hj => by omega) (fun j hj => by omega) (fun he S3 c3 r1 r2 r3 r4 r5 => k2 ps rfl hps8 he S3 c3 r1 r2 (by omega) r4 (cf_tr fS2 r5)) (fun he S3 c3 r1 r2 r3 r4 r5 r6 => k3 ps rfl hps8 he S3 c3 r1 r2 (by omega) r4 r5 (cf_tr (cf_mono fS2 (fun b j h => decide_eq_true (by have h := of_decide_eq_true h; omega))) r6))
/-- both sides come to cores that are alike -/
theorem dt_p12 (hU : ct_ds U) (hRk : ∀ q, q ∈ R → ct_rok q) {ps i : Nat} (hi : i < 8) : (dt_p1 U R ps i = none ∧ dt_p2 U R ps i = none) ∨ ∃ t1 t2 m1 m2 k, dt_p1 U R ps i = some (t1, m1, k) ∧ dt_p2 U R ps i = some (t2, m2, k) ∧ (¬ U i = .leaf → ct_pre t1 = ct_pre t2 ∧ ct_sz t1 = ct_sz t2) := by
  by_cases hl : U i = .leaf
  · refine Or.inr ⟨.leaf, .leaf, 150, 0, 0, ?_, dt_p2_lf hl, fun h => absurd hl h⟩
    unfold dt_p1
    rw [hl]
    exact dt_pa_lf
  obtain ⟨hco, hcan⟩ := hU i hi hl
  obtain ⟨hpco, _⟩ := ct_pre_co hco
  obtain ⟨u1, u2, u3, u4⟩ := dt_U0 hU hi
  have hnb := dt_nb_sz hco.1
  have hz := hco.2.2.2.2.2.2.2
  have hps : ct_sz (ct_pre (U i)) = ct_sz (U i) := ct_map_sz _
  have hCR : dt_CR (dt_U U) (dt_U (fun g => ct_pre (U g))) := fun g => by
    by_cases hg : g < 8
    · rw [show dt_U U g = U g from if_pos hg, show dt_U (fun g => ct_pre (U g)) g = ct_pre (U g) from if_pos hg]
      refine ⟨?_, fun hgl => ?_⟩
      · by_cases hgl : U g = .leaf
        · rw [hgl]; exact ⟨fun _ => rfl, fun _ => rfl⟩
        · exact (ct_map_lf (hU g hg hgl).1.1).symm
      · obtain ⟨gco, gcan⟩ := hU g hg hgl
        have gnb := ct_bl_sz (U g) gco.1
        have gz := gco.2.2.2.2.2.2.2
        obtain ⟨r1, r2, r3⟩ := ct_fr_er gco (n := 0) (B := ct_bl (ct_fl (U g))) (fun x => Iff.rfl) (by omega)
        exact ⟨gco, (ct_pre_co gco).1, _, r1, fun x y h => h.2, r2⟩
    · rw [show dt_U U g = .leaf from if_neg hg, show dt_U (fun g => ct_pre (U g)) g = .leaf from if_neg hg]
      exact ⟨Iff.rfl, fun h => absurd rfl h⟩
  have hbl : (ct_bl (ct_fl (U i))).length = dt_nb (U i) := rfl
  obtain ⟨r1, r2, r3⟩ := ct_fr_er hco (n := 0) (B := ct_bl (ct_fl (U i))) (fun x => Iff.rfl) (by omega)
  have hrb : dt_rb (fun x y => y = ct_fr 0 (ct_bl (ct_fl (U i))) x ∧ x ∈ ct_bl (ct_fl (U i))) 150 (dt_nb (U i)) := by
    refine ⟨r1, fun x y h => ?_⟩
    have hx := dt_150 hco hcan x h.2
    have hx0 := ct_bl_mem hco.2.2.2.1 hco.2.2.1 x h.2
    have hix := ct_ix_lt h.2
    rw [h.1, dt_fr_in h.2, cp_tI (by omega)]
    omega
  have hpl := dt_pa_er (Q := cu_lim U) (M := cu_M U) (RR := R) (p := ps) (N := 0) hCR (dt_g0 (dt_DU hU).1 hRk) (dt_g0 (dt_pre_C hU) hRk) (U i) hco.1 (ct_pre (U i)) hpco.1 150 (dt_nb (U i)) (fun _ => False) (fun _ => False) _ hrb r2 ⟨u1, u2, dt_gc_F, u3⟩ (dt_iv_pre hco) (Nat.zero_le _) (Nat.zero_le _) (by omega) (by omega)
  have e2 : dt_p2 U R ps i = dt_pa (dt_dn (dt_U (fun g => ct_pre (U g))) R (cu_nq (cu_lim U) (cu_M U)) ps) false (ct_pre (U i)) (dt_nb (U i)) := by
    unfold dt_p2
    rw [cu_M_pre]
  have e1 : dt_p1 U R ps i = dt_pa (dt_dn (dt_U U) R (cu_nq (cu_lim U) (cu_M U)) ps) true (U i) 150 := rfl
  rcases hpl with ⟨h1, h2⟩ | ⟨t1, t2, u, k, D, h1, h2, h3, h4⟩
  · exact Or.inl ⟨h1, e2.trans h2⟩
  · refine Or.inr ⟨t1, t2, _, _, k, h1, e2.trans h2, fun _ => ?_⟩
    obtain ⟨_, _, _, _, c1⟩ := dt_p1_ok hU hRk hi h1
    have co1 := c1 hl
    have co2 := dt_p2_ok hU hRk hi hl (e2.trans h2)
    have hbi := (dt_un_rb hrb h3 (by omega) (by omega)).1
    exact ⟨ct_er_pre hbi co1.1 co2.1 h4 co1.2.2.1 co2.2.2.1 (ct_co_cl co1), (ct_er_sz t1 co1.1 t2 co2.1 h4).1⟩
/-- what is the same when what the copies are stamped with goes on -/
theorem cr_b_f3 {W : Nat → Nat → Bool} {S3 : cm_S} {c2 : Nat} (hf : cf_W W S S3) (hw : ∀ b j, W b j = true → 9 ≤ b ∧ b ≤ 20 ∨ 33 ≤ b ∧ b ≤ 36 ∨ 38 ≤ b ∧ b ≤ 55 ∨ b = 37 ∧ ¬ j = 6 ∨ 57 ≤ b ∧ b ≤ 82 ∨ b = 91 ∨ 92 ≤ b ∧ b ≤ 98 ∧ 2400 ≤ j ∨ b = 99 ∨ b = 83 ∧ ¬ (j = 0 ∨ j = 26) ∨ b = 100 ∨ b = 101 ∨ b = 103 ∧ 16 ≤ j ∨ 108 ≤ b) (hcs : cl_cs S3 c2) (h : cr_b N T U R c S) : cr_b N T U R c2 S3 := by
  obtain ⟨g1, g2, g3, g4, g5, g6, g7, g8, g9, g10, g11, g12, g13, g14⟩ := h
  have no : ∀ b j, ¬ (9 ≤ b ∧ b ≤ 20 ∨ 33 ≤ b ∧ b ≤ 36 ∨ 38 ≤ b ∧ b ≤ 55 ∨ b = 37 ∧ ¬ j = 6 ∨ 57 ≤ b ∧ b ≤ 82 ∨ b = 91 ∨ 92 ≤ b ∧ b ≤ 98 ∧ 2400 ≤ j ∨ b = 99 ∨ b = 83 ∧ ¬ (j = 0 ∨ j = 26) ∨ b = 100 ∨ b = 101 ∨ b = 103 ∧ 16 ≤ j ∨ 108 ≤ b) → W b j = false := fun b j hn => by
    cases hc : W b j with
    | false => rfl
    | true => exact absurd (hw b j hc) hn
  exact ⟨g1, ck_n_cf hf (fun b j q1 q2 => no _ _ (by omega)) g2, cl_n_f hf (no _ _ (by omega)) (fun b j q1 q2 => no _ _ (by omega)) g3, ck_d_fr hf (fun b j q1 q2 => no _ _ (by omega)) g4, ck_d_fr hf (fun b j q1 q2 => no _ _ (by omega)) g5, cl_d_fr g9 hf (fun j hj => no _ _ (by omega)) (fun b x q1 q2 q3 q4 => no _ _ (by omega)) g6, cl_d_fr g10 hf (fun j hj => no _ _ (by omega)) (fun b x q1 q2 q3 q4 => no _ _ (by omega)) g7, cl_i_cf hf (fun j => no _ _ (by omega)) g8, g9, g10, g11, ck_r_cf hf (no _ _ (by omega)) (fun j => no _ _ (by omega)) g12, cl_r_cf hf (no _ _ (by omega)) (fun b j q1 q2 => no _ _ (by omega)) g13, hcs⟩
theorem dt_ks_eq (f g : Nat → Option (ct_T × Nat × Nat)) : ∀ n, (∀ i, i < n → dt_kc f i = dt_kc g i) → dt_ks f n = dt_ks g n
  | 0, _ => rfl
  | n + 1, h => by
    show dt_ks f n + dt_kc f n = dt_ks g n + dt_kc g n
    rw [dt_ks_eq f g n (fun i hi => h i (by omega)), h n (by omega)]
/-- what a pass may write -/
def cW_pw (b j : Nat) : Bool := decide (28 ≤ b ∧ b ≤ 36 ∨ b = 37 ∧ (j = 7 ∨ j = 8) ∨ 39 ≤ b ∧ b ≤ 55 ∨ b = 132 ∨ 92 ≤ b ∧ b ≤ 98 ∧ (1200 ≤ j ∧ j < 2400 ∨ 3600 ≤ j) ∨ b = 99 ∨ b = 83 ∧ (j = 17 ∨ j = 19 ∨ j = 20 ∨ j = 23 ∨ j = 31 ∨ j = 32 ∨ j = 33 ∨ j = 75) ∨ b = 100 ∨ b = 101 ∨ b = 103 ∧ (8 ≤ j ∧ j < 16 ∨ 24 ≤ j) ∨ 108 ≤ b ∧ b ≤ 112)
theorem cr_pass (hb : cr_b N T U R c S) (hRk : ∀ q, q ∈ R → ct_rok q) (hc : c + 200000 < 2000000000) (hL : n + 2 ≤ L) (hL2 : L < 2147483648) (k : ∀ S2 U2 c2 e q5 q6, e ≤ 1 → c2 ≤ c + 200000 → cr_b N T U2 R c2 S2 → cf_W cW_pw S S2 → cm_At (am_XX L xs) (d + 663) 300 1907 [some (.ref 1000000), some (.ref 0), some (.ref 83), some (.ref 132), some (.int (Int32.ofNat n)), some (.int q5), some (.int q6), none] [] S2 (cm_sh K e)) :
    cm_At (am_XX L xs) (d + 663) 300 1200 [some (.ref 1000000), some (.ref 0), some (.ref 83), some (.ref 132), some (.int (Int32.ofNat n)), o5, o6, none] [] S K := by
  obtain ⟨g1, g2, g3, g4, g5, g6, g7, g8, g9, g10, g11, g12, g13, g14⟩ := id hb
  have hbm : cl_b T U R c S := ⟨g7, g8, g10, g11, g13, g14⟩
  refine cx_300_1200 _ _ _ ?_
  refine ⟨cr_in (j := 1) (by omega) hL2, ?_⟩
  rintro _ rfl
  generalize hp : xs (Int32.ofNat n + 1).toNatClampNeg = p
  refine cq_pass (d := d + 602) (p := p) g10 hRk g5 g12 (fun hno => cp_r1 ?_) (fun ps hpp hps8 he S2 f2 => cp_r1 ?_) (fun ps hpp hps8 he S2 f2 d2 v2 => cp_r1 ?_)
  · refine ⟨cr_in (j := 1) (by omega) hL2, ?_⟩
    intro x6 hx6
    rw [hx6]
    refine cs_pass (d := d) (p := p) hbm hRk hc (fun _ => cp_r1 ?_) (fun ps hpp hps8 he => absurd ⟨by rw [hpp, cp_tI (by omega)]; omega, by rw [hpp, cp_tI (by omega)]; omega⟩ hno) (fun ps hpp hps8 he => absurd ⟨by rw [hpp, cp_tI (by omega)]; omega, by rw [hpp, cp_tI (by omega)]; omega⟩ hno)
    · refine cp_172 (d := d + 661) (cp_r1 ?_)
      have r75 : (cm_wI S 83 75 1).1 83 75 = 1 := by rw [cp_wI1, if_pos ⟨rfl, rfl⟩]
      rw [r75]
      have f1 : cf_W (fun b j => decide (b = 83 ∧ j = 75)) S (cm_wI S 83 75 1) := cf_wI (decide_eq_true ⟨rfl, rfl⟩)
      refine ⟨fun _ => ⟨fun h0 => absurd h0 (by decide), fun _ => cx_300_1253 _ _ _ ?_⟩, fun h => absurd rfl h⟩
      rw [dk_sh0, dk_sh0]
      exact k _ U c 1 _ _ (Nat.le_refl _) (by omega) (cr_b_f2 f1 (fun b j h => by have h := of_decide_eq_true h; omega) hb) (cf_mono f1 (fun b j h => decide_eq_true (by have h := of_decide_eq_true h; omega)))
  · -- too large
    have hb2 : cr_b N T U R c S2 := cr_b_f2 f2 (fun b j h => by have h := of_decide_eq_true h; omega) hb
    have hno : ∃ j, j < 8 ∧ dt_p2 U R ps j = none := by
      obtain ⟨j, hj, h1⟩ := he
      rcases dt_p12 g10 hRk (ps := ps) hj with ⟨_, h2⟩ | ⟨t1, t2, m1, m2, k, h2, _⟩
      · exact ⟨j, hj, h2⟩
      · rw [h1] at h2; cases h2
    refine ⟨cr_in (j := 1) (by omega) hL2, ?_⟩
    intro x6 hx6
    rw [hx6]
    refine cs_pass (d := d) (p := p) (cl_b_cf f2 (fun b j h => decide_eq_false (by omega)) hbm) hRk hc (fun hc => absurd ⟨by rw [hpp, cp_tI (by omega)]; omega, by rw [hpp, cp_tI (by omega)]; omega⟩ hc) (fun ps2 hpp2 hps2 he2 S3 c3 r75 e1 e2 s3 f3 => cp_r1 ?_) (fun ps2 hpp2 hps2 he2 => ?_)
    · refine cp_172 (d := d + 661) (cp_r1 ?_)
      rw [r75]
      refine ⟨fun _ => ⟨fun h0 => absurd h0 (by decide), fun _ => cx_300_1253 _ _ _ ?_⟩, fun h => absurd rfl h⟩
      rw [dk_sh0, dk_sh0]
      exact k S3 U c3 1 _ _ (Nat.le_refl _) e2 (cr_b_f3 f3 (fun b j h => by have h := of_decide_eq_true h; omega) s3 hb2) (cf_tr (cf_mono f2 (fun b j h => decide_eq_true (by have h := of_decide_eq_true h; omega))) (cf_mono f3 (fun b j h => decide_eq_true (by have h := of_decide_eq_true h; omega))))
    · exfalso
      have : ps2 = ps := (cp_inj (by omega) (by omega)).mp (hpp2.symm.trans hpp)
      subst this
      obtain ⟨j, hj, h1⟩ := hno
      obtain ⟨r, hr⟩ := he2 j hj
      rw [h1] at hr; cases hr
  · -- done
    have hall : ∀ j, j < 8 → ∃ t1 t2 m1 m2 k, dt_p1 U R ps j = some (t1, m1, k) ∧ dt_p2 U R ps j = some (t2, m2, k) ∧ (¬ U j = .leaf → ct_pre t1 = ct_pre t2 ∧ ct_sz t1 = ct_sz t2) := fun j hj => by
      rcases dt_p12 g10 hRk (ps := ps) hj with ⟨h1, _⟩ | h
      · obtain ⟨r, hr⟩ := he j hj
        rw [h1] at hr; cases hr
      · exact h
    have hks : dt_ks (dt_p1 U R ps) 8 = dt_ks (dt_p2 U R ps) 8 := dt_ks_eq _ _ 8 (fun j hj => by
      obtain ⟨t1, t2, m1, m2, k, h1, h2, _⟩ := hall j hj
      unfold dt_kc
      rw [h1, h2])
    obtain ⟨nd1, nd2⟩ := dt_nu_ds (U := U) (R := R) (ps := ps) g10 hRk
    have f2w : cf_W (fun b j => decide (28 ≤ b ∧ b ≤ 36 ∨ b = 37 ∧ (j = 7 ∨ j = 8) ∨ 39 ≤ b ∧ b ≤ 55 ∨ b = 132)) S S2 := cf_mono f2 (fun b j h => by
      rcases Bool.or_eq_true_iff.mp h with h | h
      · exact decide_eq_true (by have h := of_decide_eq_true h; omega)
      · exact decide_eq_true (by have h := of_decide_eq_true h; omega))
    refine ⟨cr_in (j := 1) (by omega) hL2, ?_⟩
    intro x6 hx6
    rw [hx6]
    refine cs_pass (d := d) (p := p) (cl_b_cf f2w (fun b j h => decide_eq_false (by omega)) hbm) hRk hc (fun hc => absurd ⟨by rw [hpp, cp_tI (by omega)]; omega, by rw [hpp, cp_tI (by omega)]; omega⟩ hc) (fun ps2 hpp2 hps2 he2 => ?_) (fun ps2 hpp2 hps2 he2 S3 c3 r75 e1 e2 s3 sl3 f3 => cp_r1 ?_)
    · exfalso
      have : ps2 = ps := (cp_inj (by omega) (by omega)).mp (hpp2.symm.trans hpp)
      subst this
      obtain ⟨j, hj, h1⟩ := he2
      obtain ⟨t1, t2, m1, m2, k, _, h2, _⟩ := hall j hj
      rw [h1] at h2; cases h2
    · have hpse : ps2 = ps := (cp_inj (by omega) (by omega)).mp (hpp2.symm.trans hpp)
      subst hpse
      refine cp_172 (d := d + 661) (cp_r1 ?_)
      rw [r75]
      have d3 : ck_d S3 27 (dt_nu (dt_p1 U R ps2)) := ck_d_fr f3 (fun b j q1 q2 => decide_eq_false (by omega)) d2
      have cld : cl_d S3 8 1200 (dt_nu (dt_p1 U R ps2)) := fun j hj hjl => by
        have hUj : ¬ U j = .leaf := fun hc => hjl ((nd2 j hj (he j hj)).mpr hc)
        obtain ⟨t1, t2, m1, m2, k, h1, h2, h3⟩ := hall j hj
        obtain ⟨e3, e4⟩ := h3 hUj
        obtain ⟨s1, s2⟩ := sl3 j hj hUj
        have hnu : dt_nu (dt_p1 U R ps2) j = ct_can t1 := by unfold dt_nu dt_V; rw [h1]
        have hV2 : dt_V (dt_p2 U R ps2) j = t2 := by unfold dt_V; rw [h2]
        rw [hV2] at s2
        rw [hnu]
        obtain ⟨_, _, _, _, c1⟩ := dt_p1_ok g10 hRk hj h1
        have hcc := ct_can_co (c1 hUj)
        refine ⟨s1, ?_⟩
        rw [hcc.2.2, e3, ct_can_sz, e4]
        exact s2
      have f2m : cf_W cW_pw S S2 := cf_mono f2w (fun b j h => decide_eq_true (by have h := of_decide_eq_true h; omega))
      have f3m : cf_W cW_pw S2 S3 := cf_mono f3 (fun b j h => decide_eq_true (by have h := of_decide_eq_true h; omega))
      have fS3 := cf_tr f2m f3m
      have hb3 : cr_b N T (dt_nu (dt_p1 U R ps2)) R c3 S3 := ⟨g1, ck_n_cf fS3 (fun b j q1 q2 => decide_eq_false (by omega)) g2, cl_n_f fS3 (decide_eq_false (by omega)) (fun b j q1 q2 => decide_eq_false (by omega)) g3, ck_d_fr fS3 (fun b j q1 q2 => decide_eq_false (by omega)) g4, d3, cl_d_fr g9 fS3 (fun j hj => decide_eq_false (by omega)) (fun b x q1 q2 q3 q4 => decide_eq_false (by omega)) g6, cld, cl_i_cf fS3 (fun j => decide_eq_false (by omega)) g8, g9, nd1, fun j hj => (g11 j hj).trans (nd2 j hj (he j hj)).symm, ck_r_cf fS3 (decide_eq_false (by omega)) (fun j => decide_eq_false (by omega)) g12, cl_r_cf fS3 (decide_eq_false (by omega)) (fun b j q1 q2 => decide_eq_false (by omega)) g13, s3⟩
      have v3 : S3.2 132 0 = (Int32.ofNat (dt_ks (dt_p1 U R ps2) 8)).toInt64 := by rw [(f3 132 0 (decide_eq_false (by omega))).2]; exact v2
      refine ⟨fun _ => ⟨fun _ => ⟨cp_in (i := 0) (by decide) (by decide), ?_⟩, fun h => absurd rfl h⟩, fun h => absurd rfl h⟩
      rintro _ rfl
      rw [show (0 : Int32).toNatClampNeg = 0 from rfl, v3, hks, cu_lg]
      refine ⟨fun _ => cx_300_1253 _ _ _ ?_, fun h => absurd rfl h⟩
      simp only [dk_sh0]
      have := k S3 _ c3 0 (0 : Int32) (Int32.ofNat (dt_ks (dt_p2 U R ps2) 8)) (by omega) e2 hb3 fS3
      rw [dk_sh0] at this
      exact this
end CPa17
