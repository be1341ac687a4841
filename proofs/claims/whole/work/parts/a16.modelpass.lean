/-! ## a16 a pass of the model -/
def dt_p2 (U : Nat → ct_T) (R : List (Int32 × Int32 × Int32 × Int32)) (ps i : Nat) : Option (ct_T × Nat × Nat) := dt_pa (dt_dn (dt_U (fun g => ct_pre (U g))) R (cu_nq (cu_lim U) (cu_M (fun g => ct_pre (U g)))) ps) false (ct_pre (U i)) (dt_nb (U i))
theorem dt_nb_pre {t : ct_T} : dt_nb (ct_pre t) = dt_nb t := by
  unfold dt_nb dt_B ct_pre
  rw [ct_map_fl, ct_bl_map, List.length_map]
theorem dt_iv_pre {t : ct_T} (hco : ct_co t) : dt_iv (dt_nb t) (fun _ => False) (ct_pre t) := by
  obtain ⟨hp, _⟩ := ct_pre_co hco
  have hnb := dt_nb_sz hco.1
  have hsz := hco.2.2.2.2.2.2.2
  have hct := dt_cp_ct (t := t) (n := 0) (dt_nodup.mp hco.2.2.2.2.1) (by omega)
  refine ⟨⟨hp.1, hp.2.2.1, hp.2.2.2.2.2.2.1⟩, ⟨fun z => (hct z).1, fun z hz => ?_⟩, dt_gc_F, hp.2.2.2.2.2.1⟩
  have := (hct z).2 hz
  omega
theorem dt_p2_lf {U : Nat → ct_T} {R : List (Int32 × Int32 × Int32 × Int32)} {ps i : Nat} (h : U i = .leaf) : dt_p2 U R ps i = some (.leaf, 0, 0) := by
  unfold dt_p2
  rw [h]
  exact dt_pa_lf
theorem dt_p2_ok {U : Nat → ct_T} {R : List (Int32 × Int32 × Int32 × Int32)} (hU : ct_ds U) (hR : ∀ q, q ∈ R → ct_rok q) {ps i : Nat} (hi : i < 8) (hl : ¬ U i = .leaf) {u2 : ct_T} {m k : Nat} (h : dt_p2 U R ps i = some (u2, m, k)) : ct_co u2 := by
  obtain ⟨hco, _⟩ := hU i hi hl
  have hiv := dt_iv_pre hco
  have hnb := dt_nb_sz hco.1
  have hsz := hco.2.2.2.2.2.2.2
  have hps : ct_sz (ct_pre (U i)) = ct_sz (U i) := ct_map_sz _
  have hres := dt_pa_iv (dt_g0 (dt_pre_C hU) hR) hiv (Nat.zero_le _) (by omega) h
  have h1 := hres.2.1
  exact dt_co_res hres hiv.2.1 (fun hc => hl ((ct_map_lf hco.1).mp hc)) (by omega)
/-- a core where it stays -/
def cl_sl (S : cm_S) (sl pl i : Nat) (t : ct_T) : Prop := S.1 103 (sl + i) = Int32.ofNat (pl + 150 * i) ∧ cl_t S (ct_pre t) (Int32.ofNat (pl + 150 * i)) (List.range' (pl + 150 * i) (ct_sz t))
theorem cl_sl_cf {W : Nat → Nat → Bool} {S S2 : cm_S} {sl pl i : Nat} {t : ct_T} (hc : cf_W W S S2) (hw : ct_wf t) (hz : ct_sz t ≤ 150) (h1 : W 103 (sl + i) = false) (h2 : ∀ b x, 92 ≤ b → b ≤ 98 → pl + 150 * i ≤ x → x < pl + 150 * i + 150 → W b x = false) (h : cl_sl S sl pl i t) : cl_sl S2 sl pl i t := by
  refine ⟨by rw [(hc _ _ h1).1]; exact h.1, cl_t_cf hc _ (ct_map_wf _ hw) _ _ (fun b x q1 q2 hx => ?_) h.2⟩
  have := List.mem_range'_1.mp hx
  exact h2 b x q1 q2 (by omega) (by omega)
def cW_ps (b j : Nat) : Bool := decide (92 ≤ b ∧ b ≤ 98 ∧ 3600 ≤ j ∨ b = 99 ∨ b = 83 ∧ (j = 17 ∨ j = 19 ∨ j = 20 ∨ j = 23 ∨ j = 31 ∨ j = 32 ∨ j = 33 ∨ j = 75) ∨ b = 100 ∨ b = 101 ∨ b = 103 ∧ 24 ≤ j ∨ 108 ≤ b ∧ b ≤ 112)
def cW_pn (b j : Nat) : Bool := decide (92 ≤ b ∧ b ≤ 98 ∧ (1200 ≤ j ∧ j < 2400 ∨ 3600 ≤ j) ∨ b = 99 ∨ b = 83 ∧ (j = 17 ∨ j = 19 ∨ j = 20 ∨ j = 23 ∨ j = 31 ∨ j = 32 ∨ j = 33 ∨ j = 75) ∨ b = 100 ∨ b = 101 ∨ b = 103 ∧ (8 ≤ j ∧ j < 16 ∨ 24 ≤ j) ∨ 108 ≤ b ∧ b ≤ 112)
theorem cl_hp_rg {S : cm_S} {n : Nat} (h : cl_al S [] (4800 + n)) (hn : n ≤ 3392) : cl_hp S [] (4800 + n) (List.range' 4800 n ++ []) := by
  refine ⟨h, by omega, by omega, fun x => ?_⟩
  rw [List.append_nil, List.count_nil, Nat.zero_add]
  unfold cl_in
  by_cases hx : 4800 ≤ x ∧ x < 4800 + n
  · rw [if_pos hx]
    have h2 := List.nodup_iff_count.mp (List.nodup_range' (s := 4800) (n := n)) x
    have h3 : 0 < (List.range' 4800 n).count x := List.count_pos_iff.mpr (List.mem_range'_1.mpr (by omega))
    omega
  · rw [if_neg hx]
    exact List.count_eq_zero.mpr (fun hc => hx (by have := List.mem_range'_1.mp hc; omega))
section CPa16
variable {L : Nat} {xs : Nat → Int32} {d : Nat} {T U : Nat → ct_T} {R : List (Int32 × Int32 × Int32 × Int32)}
theorem cp_231o {S : cm_S} {K : cm_K} {q1 q2 : Int32} {o3 : Option Value} (h : ¬ S.1 83 32 = 0) (k : K (.inl (some (.int 0))) (cm_wI S 83 75 2) 0) : cm_At (am_XX L xs) (d + 2) 231 47 [some (.ref 83), some (.int q1), some (.int q2), o3] [] S K := by
  refine cx_231_47 _ _ _ ⟨fun _ => ?_, fun _ => ?_⟩
  · rintro _ rfl
    refine ⟨fun hc => absurd hc h, fun _ => ?_⟩
    rintro _ rfl
    refine ⟨fun hc => absurd hc h, fun _ => ?_⟩
    refine cp_173 (cp_r1 ?_)
    exact ⟨fun _ => k, fun hc => absurd rfl hc⟩
  · rintro _ rfl
    refine ⟨fun hc => absurd hc h, fun _ => ?_⟩
    refine cp_173 (cp_r1 ?_)
    exact ⟨fun _ => k, fun hc => absurd rfl hc⟩
/-- the new cores take their places -/
theorem cp_231n {W : Nat → ct_T} {x31 : Int32} {q1 : Int32} (hW : ∀ j, j < 8 → ¬ U j = .leaf → ct_co (W j)) : ∀ (n i c : Nat) (S : cm_S) (o3 : Option Value) (K : cm_K), i + n = 8 → cl_i S U → S.1 83 31 = x31 → cl_cs S c → c + n < 2147483647 → (∀ j, j < i → ¬ U j = .leaf → cl_sl S 8 1200 j (W j)) → (∀ j, j < 8 → ¬ U j = .leaf → cl_sl S 24 3600 j (W j)) →
    (∀ S2 c2, c ≤ c2 → c2 ≤ c + n → cl_cs S2 c2 → (∀ j, j < 8 → ¬ U j = .leaf → cl_sl S2 8 1200 j (W j)) → cf_W (fun b j => decide (92 ≤ b ∧ b ≤ 98 ∧ 1200 ≤ j ∧ j < 2400 ∨ b = 83 ∧ (j = 17 ∨ j = 19 ∨ j = 20 ∨ j = 23) ∨ b = 100 ∨ b = 101 ∨ b = 103 ∧ 8 ≤ j ∧ j < 16)) S S2 → K (.inl (some (.int x31))) S2 0) →
    cm_At (am_XX L xs) (d + 160) 231 154 [some (.ref 83), some (.int q1), some (.int (Int32.ofNat i)), o3] [] S K
  | 0, i, c, S, o3, K, hn, hi, h31, hcs, hc, h8, h24, k => by
    have hi8 : i = 8 := by omega
    subst hi8
    refine cx_231_154 _ _ _ ⟨fun h => absurd h (by decide), fun _ => ?_⟩
    rintro _ rfl
    rw [h31]
    exact k S c (Nat.le_refl _) (by omega) hcs h8 cf_rfl
  | n + 1, i, c, S, o3, K, hn, hi, h31, hcs, hc, h8, h24, k => by
    have hi8 : i < 8 := by omega
    refine cx_231_154 _ _ _ ⟨fun _ => ⟨cp_in hi8 (by decide), ?_⟩, fun h => absurd (by rw [show (8 : Int32) = Int32.ofNat 8 from rfl, cp_lt (by omega) (by omega)]; omega) h⟩
    rw [cp_cl (by omega), show Int32.ofNat i + 1 = Int32.ofNat (i + 1) from cp_ad (b := 1)]
    rintro _ rfl
    by_cases hl : U i = .leaf
    · rw [(hi i hi8).1 hl]
      refine ⟨fun _ => ?_, fun h => absurd rfl h⟩
      refine cp_231n hW n (i + 1) c S o3 K (by omega) hi h31 hcs (by omega) (fun j hj hjl => ?_) h24 (fun S2 c2 e1 e2 s2 g2 f2 => k S2 c2 e1 (by omega) s2 g2 f2)
      by_cases hji : j = i
      · subst hji; exact absurd hl hjl
      · exact h8 j (by omega) hjl
    · rw [(hi i hi8).2 hl]
      obtain ⟨sl1, sl2⟩ := h24 i hi8 hl
      have hco := hW i hi8 hl
      obtain ⟨hpco, _, hpp⟩ := ct_pre_co hco
      have hps : ct_sz (ct_pre (W i)) = ct_sz (W i) := ct_map_sz _
      have hz := hco.2.2.2.2.2.2.2
      have hz0 := ct_sz_ne hco.1 hco.2.1
      refine ⟨fun h => absurd h (by decide), fun _ => ?_⟩
      rw [show (24 : Int32) = Int32.ofNat 24 from rfl, show (8 : Int32) = Int32.ofNat 8 from rfl, show (1200 : Int32) = Int32.ofNat 1200 from rfl, show (150 : Int32) = Int32.ofNat 150 from rfl, cp_ml, cp_ad, cp_ad, cp_ad]
      refine ⟨cp_in (by omega) (by decide), ?_⟩
      rw [cp_cl (by omega)]
      rintro _ rfl
      rw [sl1]
      have hnbl : (ct_bl (ct_fl (ct_pre (W i)))).length ≤ 150 := Nat.le_trans (ct_bl_sz _ hpco.1) (by omega)
      refine cp_203D (by omega) (ct_co_gd hpco) (by omega) sl2 (by omega) (fun x hx1 hx2 hx3 => by have := List.mem_range'_1.mp hx3; omega) hcs (by omega) (fun S2 q t2 a2 v2 s2 f2 => cp_r1 ⟨cp_in (by omega) (by decide), ?_⟩)
      rw [hpp, hps] at t2
      rw [hps] at f2
      have hq := cl_t_q (ct_pre (W i)) hpco.1 (by omega) (by rw [hps]; exact t2)
      subst hq
      rw [cp_cl (by omega), dk_sh0]
      rintro _ rfl
      have w3 : cf_W (fun b j => decide (b = 103 ∧ j = 8 + i)) S2 (cm_wI S2 103 (8 + i) (Int32.ofNat (1200 + 150 * i))) := cf_wI (decide_eq_true ⟨rfl, rfl⟩)
      have rg : ∀ (x : Nat), x ∈ List.range' (1200 + 150 * i) (ct_sz (W i)) → 1200 + 150 * i ≤ x ∧ x < 1200 + 150 * i + 150 := fun x hx => by have := List.mem_range'_1.mp hx; omega
      have f2no : ∀ b x, ¬ (1200 + 150 * i ≤ x ∧ x < 1200 + 150 * i + 150) → 92 ≤ b → b ≤ 98 → cW_cy (List.range' (1200 + 150 * i) (ct_sz (W i))) b x = false := fun b x hx q1 q2 => decide_eq_false (fun hc => by
        rcases hc with hc | hc
        · exact hx (rg x hc.2.2)
        · omega)
      have f2ot : ∀ b x, ¬ (92 ≤ b ∧ b ≤ 98 ∨ b = 83 ∧ (x = 17 ∨ x = 19 ∨ x = 20 ∨ x = 23) ∨ b = 100 ∨ b = 101) → cW_cy (List.range' (1200 + 150 * i) (ct_sz (W i))) b x = false := fun b x hx => decide_eq_false (fun hc => by
        rcases hc with hc | hc
        · omega
        · omega)
      have fall : cf_W (fun b j => decide (92 ≤ b ∧ b ≤ 98 ∧ 1200 ≤ j ∧ j < 2400 ∨ b = 83 ∧ (j = 17 ∨ j = 19 ∨ j = 20 ∨ j = 23) ∨ b = 100 ∨ b = 101 ∨ b = 103 ∧ 8 ≤ j ∧ j < 16)) S (cm_wI S2 103 (8 + i) (Int32.ofNat (1200 + 150 * i))) := cf_tr (cf_mono f2 (fun b j h => by
        have h := of_decide_eq_true h
        rcases h with h | h
        · have := rg j h.2.2
          exact decide_eq_true (by omega)
        · exact decide_eq_true (by omega))) (cf_mono w3 (fun b j h => decide_eq_true (by have h := of_decide_eq_true h; omega)))
      refine cp_231n hW n (i + 1) (c + 1) _ o3 K (by omega) (cl_i_cf w3 (fun j => decide_eq_false (by omega)) (cl_i_cf f2 (fun j => f2ot _ _ (by omega)) hi)) (by rw [(w3 83 31 (decide_eq_false (by omega))).1, (f2 83 31 (f2ot _ _ (by omega))).1]; exact h31) (cl_cs_f w3 (decide_eq_false (by omega)) (fun j => decide_eq_false (by omega)) s2) (by omega) (fun j hj hjl => ?_) (fun j hj hjl => ?_) (fun S3 c3 e1 e2 s3 g3 f3 => k S3 c3 (by omega) (by omega) s3 g3 (cf_tr fall f3))
      · by_cases hji : j = i
        · subst hji
          refine ⟨by rw [cp_wI1, if_pos ⟨rfl, rfl⟩], ?_⟩
          exact cl_t_cf w3 _ hpco.1 _ _ (fun b x q1 q2 _ => decide_eq_false (by omega)) t2
        · have hcoj := hW j (by omega) hjl
          have hzj := hcoj.2.2.2.2.2.2.2
          exact cl_sl_cf w3 hcoj.1 hzj (decide_eq_false (by omega)) (fun b x q1 q2 _ _ => decide_eq_false (by omega)) (cl_sl_cf f2 hcoj.1 hzj (f2ot _ _ (by omega)) (fun b x q1 q2 q3 q4 => f2no b x (by omega) q1 q2) (h8 j (by omega) hjl))
      · have hcoj := hW j hj hjl
        have hzj := hcoj.2.2.2.2.2.2.2
        exact cl_sl_cf w3 hcoj.1 hzj (decide_eq_false (by omega)) (fun b x q1 q2 _ _ => decide_eq_false (by omega)) (cl_sl_cf f2 hcoj.1 hzj (f2ot _ _ (by omega)) (fun b x q1 q2 q3 q4 => f2no b x (by omega) q1 q2) (h24 j hj hjl))
/-- all cores one after another -/
theorem cp_231l {ps : Nat} {q1 : Int32} (hq1 : q1 = Int32.ofNat ps) (hps8 : ps < 8) (hU : ct_ds U) (hRk : ∀ q, q ∈ R → ct_rok q) : ∀ (n i c : Nat) (S : cm_S) (o3 : Option Value) (K : cm_K), i + n = 8 → dm_k S T U R (cu_lim U) ps → S.1 83 32 = 0 → S.1 83 31 = Int32.ofNat (dt_ks (dt_p2 U R ps) i) → cl_cs S c → c + 22600 * n + 8 < 2000000000 → (∀ j, j < i → ∃ r, dt_p2 U R ps j = some r) → (∀ j, j < i → ¬ U j = .leaf → cl_sl S 24 3600 j (dt_V (dt_p2 U R ps) j)) →
    ((∃ j, j < 8 ∧ dt_p2 U R ps j = none) → ∀ S2 c2, S2.1 83 75 = 2 → c ≤ c2 → c2 ≤ c + 22600 * n + 8 → cl_cs S2 c2 → cf_W cW_ps S S2 → K (.inl (some (.int 0))) S2 0) →
    ((∀ j, j < 8 → ∃ r, dt_p2 U R ps j = some r) → ∀ S2 c2, S2.1 83 75 = 0 → c ≤ c2 → c2 ≤ c + 22600 * n + 8 → cl_cs S2 c2 → (∀ j, j < 8 → ¬ U j = .leaf → cl_sl S2 8 1200 j (dt_V (dt_p2 U R ps) j)) → cf_W cW_pn S S2 → K (.inl (some (.int (Int32.ofNat (dt_ks (dt_p2 U R ps) 8))))) S2 0) →
    cm_At (am_XX L xs) (d + 660) 231 47 [some (.ref 83), some (.int q1), some (.int (Int32.ofNat i)), o3] [] S K
  | 0, i, c, S, o3, K, hn, hk, h32, h31, hcs, hc, hs, h24, k1, k2 => by
    have hi8 : i = 8 := by omega
    subst hi8
    refine cx_231_47 _ _ _ ⟨fun h => absurd h (by decide), fun _ => ?_⟩
    rintro _ rfl
    refine ⟨fun _ => ?_, fun h => absurd h32 h⟩
    refine cp_173 (cp_r1 ?_)
    rw [if_pos rfl, dk_sh0]
    refine ⟨fun h => absurd h (by decide), fun _ => ?_⟩
    have w1 : cf_W (fun b j => decide (b = 83 ∧ j = 75)) S (cm_wI S 83 75 0) := cf_wI (decide_eq_true ⟨rfl, rfl⟩)
    have v1 : (cm_wI S 83 75 0).1 83 75 = 0 := by rw [cp_wI1, if_pos ⟨rfl, rfl⟩]
    have hW : ∀ j, j < 8 → ¬ U j = .leaf → ct_co (dt_V (dt_p2 U R ps) j) := fun j hj hjl => by
      obtain ⟨⟨u2, m, k⟩, hr⟩ := hs j hj
      unfold dt_V
      rw [hr]
      exact dt_p2_ok hU hRk hj hjl hr
    refine cp_231n (d := d + 500) (U := U) (W := dt_V (dt_p2 U R ps)) (x31 := Int32.ofNat (dt_ks (dt_p2 U R ps) 8)) hW 8 0 c (cm_wI S 83 75 0) o3 K (by omega) (cl_i_cf w1 (fun j => decide_eq_false (by omega)) hk.1.2) (by rw [(w1 83 31 (decide_eq_false (by omega))).1]; exact h31) (cl_cs_f w1 (decide_eq_false (by omega)) (fun j => decide_eq_false (by omega)) hcs) (by omega) (fun j hj => by omega) (fun j hj hjl => cl_sl_cf w1 (hW j hj hjl).1 (hW j hj hjl).2.2.2.2.2.2.2 (decide_eq_false (by omega)) (fun b x q1 q2 _ _ => decide_eq_false (by omega)) (h24 j hj hjl)) (fun S2 c2 e1 e2 s2 g2 f2 => ?_)
    refine k2 hs S2 c2 (by rw [(f2 83 75 (decide_eq_false (by omega))).1]; exact v1) e1 (by omega) s2 g2 (cf_tr (cf_mono w1 (fun b j h => decide_eq_true (by have h := of_decide_eq_true h; omega))) (cf_mono f2 (fun b j h => decide_eq_true (by have h := of_decide_eq_true h; omega))))
  | n + 1, i, c, S, o3, K, hn, hk, h32, h31, hcs, hc, hs, h24, k1, k2 => by
    have hi8 : i < 8 := by omega
    have hks : dt_ks (dt_p2 U R ps) (i + 1) = dt_ks (dt_p2 U R ps) i + dt_kc (dt_p2 U R ps) i := rfl
    refine cx_231_47 _ _ _ ⟨fun _ => ?_, fun h => absurd (by rw [show (8 : Int32) = Int32.ofNat 8 from rfl, cp_lt (by omega) (by omega)]; omega) h⟩
    rintro _ rfl
    refine ⟨fun _ => ⟨cp_in hi8 (by decide), ?_⟩, fun h => absurd h32 h⟩
    rw [cp_cl (by omega), show Int32.ofNat i + 1 = Int32.ofNat (i + 1) from cp_ad (b := 1)]
    rintro _ rfl
    by_cases hl : U i = .leaf
    · rw [(hk.1.2 i hi8).1 hl]
      refine ⟨fun _ => ?_, fun h => absurd rfl h⟩
      have hlf := dt_p2_lf (R := R) (ps := ps) hl
      refine cp_231l hq1 hps8 hU hRk n (i + 1) c S o3 K (by omega) hk h32 ?_ hcs (by omega) (fun j hj => ?_) (fun j hj hjl => ?_) (fun he S2 c2 r1 r2 r3 r4 r5 => k1 he S2 c2 r1 r2 (by omega) r4 r5) (fun he S2 c2 r1 r2 r3 r4 r5 r6 => k2 he S2 c2 r1 r2 (by omega) r4 r5 r6)
      · rw [hks, show dt_kc (dt_p2 U R ps) i = 0 by unfold dt_kc; rw [hlf]]
        exact h31
      · by_cases hji : j = i
        · subst hji; exact ⟨_, hlf⟩
        · exact hs j (by omega)
      · by_cases hji : j = i
        · subst hji; exact absurd hl hjl
        · exact h24 j (by omega) hjl
    · rw [(hk.1.2 i hi8).2 hl]
      obtain ⟨sl1, sl2⟩ := hk.1.1 i hi8 hl
      obtain ⟨hco, _⟩ := hU i hi8 hl
      obtain ⟨hpco, _, hpp⟩ := ct_pre_co hco
      have hps : ct_sz (ct_pre (U i)) = ct_sz (U i) := ct_map_sz _
      have hz := hco.2.2.2.2.2.2.2
      have hnbs := dt_nb_sz hco.1
      refine ⟨fun h => absurd h (by decide), fun _ => ?_⟩
      rw [show (24 : Int32) = Int32.ofNat 24 from rfl, show (8 : Int32) = Int32.ofNat 8 from rfl, show (3600 : Int32) = Int32.ofNat 3600 from rfl, show (4800 : Int32) = Int32.ofNat 4800 from rfl, show (150 : Int32) = Int32.ofNat 150 from rfl, cp_ml, cp_ad, cp_ad, cp_ad]
      refine ⟨cp_in (by omega) (by decide), ?_⟩
      rw [cp_cl (by omega)]
      rintro _ rfl
      rw [sl1]
      have hnbl : (ct_bl (ct_fl (ct_pre (U i)))).length ≤ 150 := Nat.le_trans (ct_bl_sz _ hpco.1) (by omega)
      have hVj : ∀ j, j < i → ¬ U j = .leaf → ct_co (dt_V (dt_p2 U R ps) j) := fun j hj hjl => by
        obtain ⟨⟨u2, m, k⟩, hr⟩ := hs j hj
        unfold dt_V
        rw [hr]
        exact dt_p2_ok hU hRk (by omega) hjl hr
      refine cp_203D (by omega) (ct_co_gd hpco) (by omega) sl2 (by omega) (fun x hx1 hx2 hx3 => by have := List.mem_range'_1.mp hx3; omega) hcs (by omega) (fun S1 q t1 a1 v1 s1 f1 => cp_r1 ?_)
      rw [hpp, hps] at t1
      rw [hps] at a1 f1
      have v1' : S1.1 83 20 = Int32.ofNat (dt_nb (U i)) := by
        rw [v1]
        exact congrArg Int32.ofNat dt_nb_pre
      have rg1 : ∀ (x : Nat), x ∈ List.range' 4800 (ct_sz (U i)) → 4800 ≤ x := fun x hx => by have := List.mem_range'_1.mp hx; omega
      have f1no : ∀ b x, (92 ≤ b → b ≤ 98 → x < 4800) → ¬ (b = 83 ∧ (x = 17 ∨ x = 19 ∨ x = 20 ∨ x = 23) ∨ b = 100 ∨ b = 101) → cW_cy (List.range' 4800 (ct_sz (U i))) b x = false := fun b x h1 h2 => decide_eq_false (fun hc => by
        rcases hc with hc | hc
        · have := h1 hc.1 hc.2.1
          have := rg1 x hc.2.2
          omega
        · omega)
      have f1p : cf_W cW_ps S S1 := cf_mono f1 (fun b j h => by
        have h := of_decide_eq_true h
        rcases h with h | h
        · have := rg1 j h.2.2
          exact decide_eq_true (by omega)
        · exact decide_eq_true (by omega))
      have hk1 := dm_k_cf hU f1 (fun b j hbj => f1no b j (by omega) (by omega)) hk
      have h24a : ∀ j, j < i → ¬ U j = .leaf → cl_sl S1 24 3600 j (dt_V (dt_p2 U R ps) j) := fun j hj hjl => cl_sl_cf f1 (hVj j hj hjl).1 (hVj j hj hjl).2.2.2.2.2.2.2 (f1no _ _ (by omega) (by omega)) (fun b x q1 q2 q3 q4 => f1no _ _ (by omega) (by omega)) (h24 j hj hjl)
      rw [hq1]
      refine cp_230 (T := T) (U := U) (R := R) (Q := cu_lim U) hps8 hU hRk (fun g k h => by rw [cu_M_pre]; exact (cu_it_al 32 g k h).2) (ct_pre (U i)) hpco.1 _ (dt_nb (U i)) (c + 1) (dt_ks (dt_p2 U R ps) i) (fun _ => False) S1 q (List.range' 4800 (ct_sz (U i))) [] [] (4800 + ct_sz (U i)) _ (by have := ct_ht_le _ hpco.1; omega) (dt_iv_pre hco) (by omega) (fun _ => by omega) (by rw [List.length_nil]; omega) (by omega) hk1 t1 (cl_hp_rg a1 (by omega)) v1' s1 (by rw [(f1 83 32 (f1no _ _ (by omega) (by omega))).1]; exact h32) (by rw [(f1 83 31 (f1no _ _ (by omega) (by omega))).1]; exact h31) (fun hnone S2 q2 c2 f2 g2 s2 e2 e2' => cp_r1 ?_) (fun u2 m k hsome S2 q2 fp2 sp2 nx2 c2 t2 hp2 h202 h322 h312 s2 e2 e2' f2 => cp_r1 ?_)
      · have hn' : dt_p2 U R ps i = none := hnone
        rintro _ rfl
        refine ⟨fun h => absurd h g2, fun _ => ⟨cp_in (by omega) (by decide), ?_⟩⟩
        rw [cp_cl (by omega)]
        simp only [dk_sh0]
        rintro _ rfl
        have w3 : cf_W (fun b j => decide (b = 103 ∧ j = 24 + i)) S2 (cm_wI S2 103 (24 + i) (-1)) := cf_wI (decide_eq_true ⟨rfl, rfl⟩)
        refine cp_231o (d := d + 658) (by rw [(w3 83 32 (decide_eq_false (by omega))).1]; exact g2) ?_
        have w4 : cf_W (fun b j => decide (b = 83 ∧ j = 75)) (cm_wI S2 103 (24 + i) (-1)) (cm_wI (cm_wI S2 103 (24 + i) (-1)) 83 75 2) := cf_wI (decide_eq_true ⟨rfl, rfl⟩)
        refine k1 ⟨i, hi8, hn'⟩ _ c2 (by rw [cp_wI1, if_pos ⟨rfl, rfl⟩]) (by omega) (by omega) (cl_cs_f w4 (decide_eq_false (by omega)) (fun j => decide_eq_false (by omega)) (cl_cs_f w3 (decide_eq_false (by omega)) (fun j => decide_eq_false (by omega)) s2)) ?_
        exact cf_tr f1p (cf_tr (cf_mono f2 (fun b j h => decide_eq_true (by have h := of_decide_eq_true h; omega))) (cf_tr (cf_mono w3 (fun b j h => decide_eq_true (by have h := of_decide_eq_true h; omega))) (cf_mono w4 (fun b j h => decide_eq_true (by have h := of_decide_eq_true h; omega)))))
      · have hs' : dt_p2 U R ps i = some (u2, m, k) := hsome
        have hco2 := dt_p2_ok hU hRk hi8 hl hs'
        obtain ⟨hpco2, _, hpp2⟩ := ct_pre_co hco2
        have hz2 := hco2.2.2.2.2.2.2.2
        have hz20 := ct_sz_ne hco2.1 hco2.2.1
        rintro _ rfl
        refine ⟨fun _ => ?_, fun h => absurd h322 h⟩
        have f2p : cf_W cW_ps S1 S2 := cf_mono (cW_mo_mv f2) (fun b j h => decide_eq_true (by have h := of_decide_eq_true h; omega))
        have hk2 := dm_k_mv hU f2 hk1
        have h24b : ∀ j, j < i → ¬ U j = .leaf → cl_sl S2 24 3600 j (dt_V (dt_p2 U R ps) j) := fun j hj hjl => cl_sl_cf (cW_mo_mv f2) (hVj j hj hjl).1 (hVj j hj hjl).2.2.2.2.2.2.2 (decide_eq_false (by omega)) (fun b x q1 q2 q3 q4 => decide_eq_false (by omega)) (h24a j hj hjl)
        have hnbl2 : (ct_bl (ct_fl u2)).length ≤ 150 := Nat.le_trans (ct_bl_sz _ hco2.1) (by omega)
        have hfp2 : ∀ x, x ∈ fp2 → 4800 ≤ x := fun x hx => (cl_hp_al hp2 (by simp [hx])).1
        refine cp_203D (by omega) (ct_co_gd hco2) (by omega) t2 (by omega) (fun x hx1 hx2 hx3 => by have := hfp2 x hx3; omega) s2 (by omega) (fun S3 q3 t3 a3 v3 s3 f3 => cp_r1 ⟨cp_in (by omega) (by decide), ?_⟩)
        have hq := cl_t_q (ct_pre u2) hpco2.1 (by rw [show ct_sz (ct_pre u2) = ct_sz u2 from ct_map_sz _]; omega) (by rw [show ct_sz (ct_pre u2) = ct_sz u2 from ct_map_sz _]; exact t3)
        subst hq
        rw [cp_cl (by omega)]
        simp only [dk_sh0]
        rintro _ rfl
        have rg3 : ∀ (x : Nat), x ∈ List.range' (3600 + 150 * i) (ct_sz u2) → 3600 + 150 * i ≤ x ∧ x < 3600 + 150 * i + 150 := fun x hx => by have := List.mem_range'_1.mp hx; omega
        have f3no : ∀ b x, (92 ≤ b → b ≤ 98 → ¬ (3600 + 150 * i ≤ x ∧ x < 3600 + 150 * i + 150)) → ¬ (b = 83 ∧ (x = 17 ∨ x = 19 ∨ x = 20 ∨ x = 23) ∨ b = 100 ∨ b = 101) → cW_cy (List.range' (3600 + 150 * i) (ct_sz u2)) b x = false := fun b x h1 h2 => decide_eq_false (fun hc => by
          rcases hc with hc | hc
          · exact h1 hc.1 hc.2.1 (rg3 x hc.2.2)
          · omega)
        have f3p : cf_W cW_ps S2 S3 := cf_mono f3 (fun b j h => by
          have h := of_decide_eq_true h
          rcases h with h | h
          · have := rg3 j h.2.2
            exact decide_eq_true (by omega)
          · exact decide_eq_true (by omega))
        have w4 : cf_W (fun b j => decide (b = 103 ∧ j = 24 + i)) S3 (cm_wI S3 103 (24 + i) (Int32.ofNat (3600 + 150 * i))) := cf_wI (decide_eq_true ⟨rfl, rfl⟩)
        have hk3 := dm_k_cf hU f3 (fun b j hbj => f3no b j (by omega) (by omega)) hk2
        have hk4 := dm_k_cf hU w4 (fun b j hbj => decide_eq_false (by omega)) hk3
        have fS4 : cf_W cW_ps S (cm_wI S3 103 (24 + i) (Int32.ofNat (3600 + 150 * i))) := cf_tr f1p (cf_tr f2p (cf_tr f3p (cf_mono w4 (fun b j h => decide_eq_true (by have h := of_decide_eq_true h; omega)))))
        have hVi : dt_V (dt_p2 U R ps) i = u2 := by unfold dt_V; rw [hs']
        have hki : dt_kc (dt_p2 U R ps) i = k := by unfold dt_kc; rw [hs']
        rw [← hq1]
        refine cp_231l hq1 hps8 hU hRk n (i + 1) (c2 + 1) _ _ K (by omega) hk4 ?_ ?_ (cl_cs_f w4 (decide_eq_false (by omega)) (fun j => decide_eq_false (by omega)) s3) (by omega) (fun j hj => ?_) (fun j hj hjl => ?_) (fun he S5 c5 r1 r2 r3 r4 r5 => k1 he S5 c5 r1 (by omega) (by omega) r4 (cf_tr fS4 r5)) (fun he S5 c5 r1 r2 r3 r4 r5 r6 => k2 he S5 c5 r1 (by omega) (by omega) r4 r5 (cf_tr (cf_mono fS4 (fun b j h => decide_eq_true (by have h := of_decide_eq_true h; omega))) r6))
        · rw [(w4 83 32 (decide_eq_false (by omega))).1, (f3 83 32 (f3no _ _ (by omega) (by omega))).1]; exact h322
        · rw [(w4 83 31 (decide_eq_false (by omega))).1, (f3 83 31 (f3no _ _ (by omega) (by omega))).1, h312, hks, hki]
        · by_cases hji : j = i
          · subst hji; exact ⟨_, hs'⟩
          · exact hs j (by omega)
        · by_cases hji : j = i
          · subst hji
            rw [hVi]
            refine ⟨by rw [cp_wI1, if_pos ⟨rfl, rfl⟩], ?_⟩
            exact cl_t_cf w4 _ hpco2.1 _ _ (fun b x q1 q2 _ => decide_eq_false (by omega)) t3
          · have hcoj := hVj j (by omega) hjl
            exact cl_sl_cf w4 hcoj.1 hcoj.2.2.2.2.2.2.2 (decide_eq_false (by omega)) (fun b x q1 q2 _ _ => decide_eq_false (by omega)) (cl_sl_cf f3 hcoj.1 hcoj.2.2.2.2.2.2.2 (f3no _ _ (by omega) (by omega)) (fun b x q1 q2 q3 q4 => f3no b x (by omega) (by omega)) (h24b j (by omega) hjl))
end CPa16
