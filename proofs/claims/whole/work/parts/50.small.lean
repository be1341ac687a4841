/-! ## 50 size, core, rule, reset on both sides -/
def cW_o (b j : Nat) : Bool := decide (b = 132 ∧ j = 0)
theorem ct_range {n i : Nat} (hn : n ≤ 150) {pl : Nat} : ∀ x, x ∈ List.range' (pl + 150 * i) n → pl + 150 * i ≤ x ∧ x < pl + 150 * i + 150 := fun x hx => by
  rw [List.mem_range'_1] at hx
  omega
def ck_r (S : cm_S) (R : List (Int32 × Int32 × Int32 × Int32)) : Prop := R.length ≤ 10 ∧ S.1 37 6 = Int32.ofNat R.length ∧ ∀ (i : Nat) q, R[i]? = some q → S.1 56 i = ((q.1 * 8 + q.2.1) * 8 + q.2.2.1) * 8 + q.2.2.2
def cl_r (S : cm_S) (R : List (Int32 × Int32 × Int32 × Int32)) : Prop := R.length ≤ 10 ∧ S.1 83 26 = Int32.ofNat R.length ∧ ∀ (i : Nat) q, R[i]? = some q → S.1 104 i = q.1 ∧ S.1 105 i = q.2.1 ∧ S.1 106 i = q.2.2.1 ∧ S.1 107 i = q.2.2.2
def ct_rok (q : Int32 × Int32 × Int32 × Int32) : Prop := (0 ≤ q.1.toInt ∧ q.1.toInt < 3) ∧ (0 ≤ q.2.1.toInt ∧ q.2.1.toInt < 8) ∧ (0 ≤ q.2.2.1.toInt ∧ q.2.2.1.toInt < 8) ∧ (0 ≤ q.2.2.2.toInt ∧ q.2.2.2.toInt < 8)
def cW_rl (b j : Nat) : Bool := decide (b = 37 ∧ j = 6 ∨ b = 56 ∨ b = 132)
def cW_ml (b j : Nat) : Bool := decide (b = 83 ∧ (j = 26 ∨ j = 75) ∨ 104 ≤ b ∧ b ≤ 107)
theorem ct_get_ap2 {α : Type} {N : List α} {e e2 : α} {i : Nat} (h : (N ++ [e])[i]? = some e2) : (i < N.length ∧ N[i]? = some e2) ∨ (i = N.length ∧ e2 = e) := by
  rw [List.getElem?_append] at h
  split at h
  · next hi => exact Or.inl ⟨hi, h⟩
  · next hi =>
    refine Or.inr ?_
    cases hj : i - N.length with
    | zero => rw [hj] at h; simp at h; exact ⟨by omega, h.symm⟩
    | succ j => rw [hj] at h; simp at h
/-- whether a tree is there -/
def ct_th : ct_T → Bool
  | .leaf => false
  | _ => true
theorem ct_th_of {t : ct_T} : (ct_th t = true ↔ ¬ t = .leaf) := by
  cases t with
  | leaf => exact ⟨fun h => (by cases h), fun h => absurd rfl h⟩
  | inner => exact ⟨fun _ h => (by cases h), fun _ => rfl⟩
/-- how many of the first n definitions are there -/
def ct_c8 (T : Nat → ct_T) : Nat → Nat
  | 0 => 0
  | n + 1 => ct_c8 T n + (if ct_th (T n) = true then 1 else 0)
theorem ct_c8_le {T : Nat → ct_T} : ∀ n, ct_c8 T n ≤ n
  | 0 => Nat.le_refl _
  | n + 1 => by
    have := ct_c8_le (T := T) n
    show ct_c8 T n + (if ct_th (T n) = true then 1 else 0) ≤ n + 1
    split <;> omega
section CP50
variable {L : Nat} {xs : Nat → Int32} {d : Nat} {S : cm_S} {K : cm_K} {T U : Nat → ct_T} {p : Int32}
theorem cq_size (h1 : ck_d S 21 T) (h2 : ck_d S 27 U) (hT : ∀ i, i < 8 → ct_wf (T i) ∧ ct_wf (U i) ∧ (T i = .leaf ↔ U i = .leaf)) (k1 : ∀ i S2, i < 8 → p = Int32.ofNat i → ¬ U i = .leaf → S2.2 132 0 = (Int32.ofNat (ct_sz (U i))).toInt64 → cf_W cW_o S S2 → K (.inl (some (.int 0))) S2 0) (k2 : ¬ ct_df T p → K (.inl (some (.int 1))) S 1) :
    cm_At (am_XX L xs) (d + 5) 290 0 [some (.ref 0), some (.int p), some (.ref 132), none] [] S K := by
  refine cx_290_0 p ?_
  refine cx_145_0 p ?_
  refine cp_158 h1 (fun i hi => (hT i hi).1) (fun h => cp_r0 ?_) (fun h => cp_x0 ?_)
  · obtain ⟨i, hi, rfl, ht⟩ := ct_df_of h
    have hu : ¬ U i = .leaf := fun hc => ht ((hT i hi).2.2.mpr hc)
    refine cp_165 (cp_r1 ?_)
    rw [cp_rt]
    refine cp_12 (by decide) (cp_r1 ?_)
    rw [cp_sz (by decide) ((h2 i hi).2 hu) (hT i hi).2.1 hu]
    try dsimp only [cm_sh]
    refine cp_r1 ?_
    refine ⟨cp_in (i := 0) (by decide) (by decide), ?_⟩
    rintro _ rfl
    exact k1 i _ hi rfl hu (by rw [cp_wJ2]; exact if_pos ⟨rfl, rfl⟩) (cf_wJ (decide_eq_true ⟨rfl, rfl⟩))
  · try dsimp only [cm_sh]
    refine cp_x1 ?_
    exact ⟨by decide, fun _ => k2 h, fun h => absurd h (by decide), fun h => absurd h (by decide)⟩
theorem cs_size (h2 : cl_d S 8 1200 U) (h3 : cl_i S T) (hT : ∀ i, i < 8 → ct_wf (T i) ∧ ct_wf (U i) ∧ (T i = .leaf ↔ U i = .leaf)) (hU : ct_ds U) (k1 : ∀ i, i < 8 → p = Int32.ofNat i → ¬ U i = .leaf → K (.inl (some (.int (Int32.ofNat (ct_sz (U i)))))) (cm_wI S 83 75 0) 0) (k2 : ¬ ct_df T p → K (.inl (some (.int 0))) (cm_wI S 83 75 1) 0) :
    cm_At (am_XX L xs) (d + 152) 233 0 [some (.ref 83), some (.int p)] [] S K := by
  refine cx_233_0 p ?_
  refine cp_178 h3 (fun h => cp_r1 ⟨fun h => absurd h (by decide), fun _ => ?_⟩) (fun h => cp_r1 ⟨fun _ => ?_, fun h => absurd rfl h⟩)
  · obtain ⟨i, hi, rfl, ht⟩ := ct_df_of h
    have hu : ¬ U i = .leaf := fun hc => ht ((hT i hi).2.2.mpr hc)
    refine cp_173 (cp_r1 ?_)
    rw [if_pos rfl]
    refine ⟨fun h => absurd h (by decide), fun _ => ?_⟩
    rw [show (8 : Int32) = Int32.ofNat 8 from rfl, cp_ad, cp_cl (by omega)]
    refine ⟨cp_in (by omega) (by decide), ?_⟩
    rintro _ rfl
    rw [cp_wI1, if_neg (by omega), (h2 i hi hu).1]
    have hc := hU i hi hu
    have hsz : ct_sz (ct_pre (U i)) = ct_sz (U i) := ct_map_sz _
    have h150 := hc.1.2.2.2.2.2.2.2
    rw [show d + 151 = (d + 150 - ct_sz (ct_pre (U i))) + ct_sz (ct_pre (U i)) + 1 by omega]
    have hwp : ct_wf (ct_pre (U i)) := ct_map_wf _ (hT i hi).2.1
    refine cp_204 (ct_pre (U i)) hwp _ _ _ _ (by omega) (cl_t_cf (W := fun b _ => decide (b = 83)) (cf_wI (decide_eq_true rfl)) _ hwp _ _ (fun b x q1 q2 _ => decide_eq_false (by omega)) (h2 i hi hu).2) (cp_r1 ?_)
    rw [hsz]
    exact k1 i hi rfl hu
  · refine cp_173 (cp_r1 ?_)
    rw [if_neg (by decide)]
    exact ⟨fun _ => k2 h, fun h => absurd rfl h⟩
theorem cq_core (h1 : ck_d S 21 T) (h2 : ck_d S 27 U) (hT : ∀ i, i < 8 → ct_wf (T i) ∧ ct_wf (U i) ∧ (T i = .leaf ↔ U i = .leaf)) (k1 : ∀ i S2, i < 8 → p = Int32.ofNat i → ¬ U i = .leaf → S2.2 132 0 = ct_pr 9 (ct_fl (U i)) → cf_W cW_o S S2 → K (.inl (some (.int 0))) S2 0) (k2 : ¬ ct_df T p → K (.inl (some (.int 1))) S 1) :
    cm_At (am_XX L xs) (d + 5) 291 0 [some (.ref 0), some (.int p), some (.ref 132), none] [] S K := by
  refine cx_291_0 p ?_
  refine cx_146_0 p ?_
  refine cp_158 h1 (fun i hi => (hT i hi).1) (fun h => cp_r0 ?_) (fun h => cp_x0 ?_)
  · obtain ⟨i, hi, rfl, ht⟩ := ct_df_of h
    have hu : ¬ U i = .leaf := fun hc => ht ((hT i hi).2.2.mpr hc)
    refine cp_165 (cp_r1 ?_)
    rw [cp_rt]
    refine cp_33 (by decide) (hT i hi).2.1 hu ((h2 i hi).2 hu) (cp_r2 ?_)
    try dsimp only [cm_sh]
    refine cp_r2 ?_
    refine ⟨cp_in (i := 0) (by decide) (by decide), ?_⟩
    rintro _ rfl
    exact k1 i _ hi rfl hu (by rw [cp_wJ2]; exact if_pos ⟨rfl, rfl⟩) (cf_wJ (decide_eq_true ⟨rfl, rfl⟩))
  · try dsimp only [cm_sh]
    refine cp_x2 ?_
    exact ⟨by decide, fun _ => k2 h, fun h => absurd h (by decide), fun h => absurd h (by decide)⟩
def cW_mc (b j : Nat) : Bool := decide (b = 100 ∨ b = 83 ∧ (j = 20 ∨ j = 70 ∨ j = 75))
theorem cs_core (h2 : cl_d S 8 1200 U) (h3 : cl_i S T) (hT : ∀ i, i < 8 → ct_wf (T i) ∧ ct_wf (U i) ∧ (T i = .leaf ↔ U i = .leaf)) (hU : ct_ds U) (k1 : ∀ i S2, i < 8 → p = Int32.ofNat i → ¬ U i = .leaf → S2.1 83 75 = 0 → cf_W cW_mc S S2 → K (.inl (some (.long (ct_pr 9 (ct_fl (U i)))))) S2 0) (k2 : ¬ ct_df T p → K (.inl (some (.long 0))) (cm_wI S 83 75 1) 0) :
    cm_At (am_XX L xs) (d + 153) 237 0 [some (.ref 83), some (.int p)] [] S K := by
  refine cx_237_0 p ?_
  refine cp_178 h3 (fun h => cp_r1 ⟨fun h => absurd h (by decide), fun _ => ?_⟩) (fun h => cp_r1 ⟨fun _ => ?_, fun h => absurd rfl h⟩)
  · obtain ⟨i, hi, rfl, ht⟩ := ct_df_of h
    have hu : ¬ U i = .leaf := fun hc => ht ((hT i hi).2.2.mpr hc)
    refine cp_173 (cp_r1 ?_)
    rw [if_pos rfl]
    refine ⟨fun h => absurd h (by decide), fun _ => ?_⟩
    rintro _ rfl
    rintro _ rfl
    rw [show (8 : Int32) = Int32.ofNat 8 from rfl, cp_ad, cp_cl (by omega)]
    refine ⟨cp_in (by omega) (by decide), ?_⟩
    rintro _ rfl
    rw [cp_wI1, if_neg (by omega), cp_wJ1, cp_wI1, if_neg (by omega), (h2 i hi hu).1]
    obtain ⟨hc, hcan⟩ := hU i hi hu
    obtain ⟨p1, p2, p3⟩ := ct_pre_co hc
    have hsz : ct_sz (ct_pre (U i)) = ct_sz (U i) := ct_map_sz _
    have h150 := hc.2.2.2.2.2.2.2
    have c0 : cf_W cW_mc S (cm_wI (cm_wJ (cm_wI S 83 75 0) 83 70 9) 83 20 0) := cf_tr (cf_wI rfl) (cf_tr (cf_wJ rfl) (cf_wI rfl))
    rw [show d + 152 = (d + 150 - ct_sz (ct_pre (U i))) + ct_sz (ct_pre (U i)) + 2 by omega]
    refine cp_236w p1 (cl_t_cf c0 _ p1.1 _ _ (fun b x q1 q2 _ => decide_eq_false (by omega)) (h2 i hi hu).2) (by rw [cp_wI1, if_pos ⟨rfl, rfl⟩]) (by rw [cp_wI2, cp_wJ2, if_pos ⟨rfl, rfl⟩]) (fun S2 g1 g2 => cp_r0 ?_)
    rintro _ rfl
    rw [g1, p2, hcan]
    refine k1 i S2 hi rfl hu ?_ (cf_tr c0 (cf_mono g2 (fun b j h => decide_eq_true (by have h := of_decide_eq_true h; omega))))
    rw [(g2 83 75 rfl).1]
    simp [cp_wI1, cp_wJ1]
  · refine cp_173 (cp_r1 ?_)
    rw [if_neg (by decide)]
    exact ⟨fun _ => k2 h, fun h => absurd rfl h⟩
/-- a rule is added -/
theorem cq_rule {R : List (Int32 × Int32 × Int32 × Int32)} {p1 p2 p3 p4 : Int32} (hr : ck_r S R) (k0 : ∀ S2, ct_rok (p1, p2, p3, p4) → R.length < 10 → ck_r S2 (R ++ [(p1, p2, p3, p4)]) → S2.2 132 0 = (Int32.ofNat (R.length + 1)).toInt64 → cf_W cW_rl S S2 → K (.inl (some (.int 0))) S2 0) (k1 : ¬ ct_rok (p1, p2, p3, p4) → K (.inl (some (.int 1))) S 1) (k2 : ct_rok (p1, p2, p3, p4) → ¬ R.length < 10 → K (.inl (some (.int 2))) S 1) :
    cm_At (am_XX L xs) (d + 4) 288 0 [some (.ref 0), some (.int p1), some (.int p2), some (.int p3), some (.int p4), some (.ref 132), none] [] S K := by
  have hl := hr.1
  refine cx_288_0 _ _ _ _ ?_
  refine cx_142_0 _ _ _ _ ?_
  have bad : ¬ ct_rok (p1, p2, p3, p4) → 1 < 3 ∧ ((1 : Nat) = 0 → (K (.inr 0) S 1)) ∧ ((1 : Nat) = 1 → K (.inl (some (.int 1))) S 1) ∧ ((1 : Nat) = 2 → K (.inl (some (.int 2))) S 1) := fun h => ⟨by decide, fun h => absurd h (by decide), fun _ => k1 h, fun h => absurd h (by decide)⟩
  refine cp_161k (b := 3) rfl (fun a1 => cp_r0 ?_) (fun a1 => cp_x0 ?_)
  · refine cp_161k (b := 8) rfl (fun a2 => cp_r0 ?_) (fun a2 => cp_x0 ?_)
    · refine cp_161k (b := 8) rfl (fun a3 => cp_r0 ?_) (fun a3 => cp_x0 ?_)
      · refine cp_161k (b := 8) rfl (fun a4 => cp_r0 ?_) (fun a4 => cp_x0 ?_)
        · have ok : ct_rok (p1, p2, p3, p4) := ⟨a1, a2, a3, a4⟩
          rintro _ rfl
          rw [hr.2.1, show (10 : Int32) = Int32.ofNat 10 from rfl]
          refine ⟨fun h => ?_, fun h => ?_⟩
          · rw [cp_lt (by omega) (by omega)] at h
            refine cx_79_0 _ _ _ _ ?_
            rintro _ rfl
            rw [hr.2.1]
            refine cx_80_0 _ _ _ (cp_r1 ?_)
            refine cp_167 (by decide) (cp_r0 ?_)
            rw [cp_w_at (show R.length < cm_rl 56 by show R.length < 10; exact h) (by decide +kernel)]
            rintro _ rfl
            rintro _ rfl
            rintro _ rfl
            rw [cp_wI1, if_pos ⟨rfl, rfl⟩, cp_wI1, if_neg (by omega), hr.2.1, show Int32.ofNat R.length + 1 = Int32.ofNat (R.length + 1) from cp_ad (b := 1)]
            try dsimp only [cm_sh]
            refine cp_r1 ?_
            try dsimp only [cm_sh]
            refine cp_r1 ?_
            refine ⟨cp_in (i := 0) (by decide) (by decide), ?_⟩
            rintro _ rfl
            refine k0 _ ok h ⟨by rw [List.length_append, List.length_singleton]; omega, ?_, ?_⟩ ?_ ?_
            · rw [cp_wJ1, cp_wI1, if_pos ⟨rfl, rfl⟩, List.length_append, List.length_singleton]
            · intro i q hq
              rw [cp_wJ1, cp_wI1, if_neg (by omega), cp_wI1]
              rcases ct_get_ap2 hq with ⟨hi, hq3⟩ | ⟨hi, hq3⟩
              · rw [if_neg (by omega)]; exact hr.2.2 i q hq3
              · subst hi; subst hq3
                rw [if_pos ⟨rfl, rfl⟩]
            · rw [cp_wJ2]; exact if_pos ⟨rfl, rfl⟩
            · exact cf_tr (cf_wI rfl) (cf_tr (cf_wI rfl) (cf_wJ rfl))
          · rw [cp_lt (by omega) (by omega)] at h
            try dsimp only [cm_sh]
            refine cp_x1 ?_
            exact ⟨by decide, fun h => absurd h (by decide), fun h => absurd h (by decide), fun _ => k2 ok h⟩
        · try dsimp only [cm_sh]
          refine cp_x1 ?_
          exact bad (fun h => a4 h.2.2.2)
      · try dsimp only [cm_sh]
        refine cp_x1 ?_
        exact bad (fun h => a3 h.2.2.1)
    · try dsimp only [cm_sh]
      refine cp_x1 ?_
      exact bad (fun h => a2 h.2.1)
  · try dsimp only [cm_sh]
    refine cp_x1 ?_
    exact bad (fun h => a1 h.1)
theorem cs_rule35 {p1 p2 p3 p4 : Int32} (k1 : K (.inl (some (.int 0))) (cm_wI S 83 75 1) 0) : cm_At (am_XX L xs) (d + 2) 211 35 [some (.ref 83), some (.int p1), some (.int p2), some (.int p3), some (.int p4), none] [] S K := by
  refine cx_211_35 _ _ _ _ ⟨fun _ => cp_173 (cp_r1 ?_), fun h => absurd rfl h⟩
  rw [if_neg (by decide)]
  exact ⟨fun _ => k1, fun h => absurd rfl h⟩
theorem cs_rule {R : List (Int32 × Int32 × Int32 × Int32)} {p1 p2 p3 p4 : Int32} (hr : cl_r S R) (k0 : ∀ S2, ct_rok (p1, p2, p3, p4) → R.length < 10 → cl_r S2 (R ++ [(p1, p2, p3, p4)]) → S2.1 83 75 = 0 → cf_W cW_ml S S2 → K (.inl (some (.int (Int32.ofNat (R.length + 1))))) S2 0) (k1 : ¬ ct_rok (p1, p2, p3, p4) → K (.inl (some (.int 0))) (cm_wI S 83 75 1) 0) (k2 : ct_rok (p1, p2, p3, p4) → ¬ R.length < 10 → K (.inl (some (.int 0))) (cm_wI S 83 75 2) 0) :
    cm_At (am_XX L xs) (d + 3) 211 0 [some (.ref 83), some (.int p1), some (.int p2), some (.int p3), some (.int p4), none] [] S K := by
  have hl := hr.1
  refine cx_211_0 _ _ _ _ ?_
  refine cp_174k (b := 3) rfl rfl (fun a1 => cp_r1 ⟨fun h => absurd h (by decide), fun _ => ?_⟩) (fun a1 => cp_r1 ⟨fun _ => cs_rule35 (k1 (fun h => a1 h.1)), fun h => absurd rfl h⟩)
  refine cp_176 (fun a2 => cp_r1 ⟨fun h => absurd h (by decide), fun _ => ?_⟩) (fun a2 => cp_r1 ⟨fun _ => cs_rule35 (k1 (fun h => a2 h.2.1)), fun h => absurd rfl h⟩)
  refine cp_176 (fun a3 => cp_r1 ⟨fun h => absurd h (by decide), fun _ => ?_⟩) (fun a3 => cp_r1 ⟨fun _ => cs_rule35 (k1 (fun h => a3 h.2.2.1)), fun h => absurd rfl h⟩)
  refine cp_176 (fun a4 => cp_r1 ⟨fun h => absurd h (by decide), fun _ => ?_⟩) (fun a4 => cp_r1 ⟨fun _ => cs_rule35 (k1 (fun h => a4 h.2.2.2)), fun h => absurd rfl h⟩)
  have ok : ct_rok (p1, p2, p3, p4) := ⟨a1, a2, a3, a4⟩
  refine ⟨fun h => absurd h (by decide), fun _ => ?_⟩
  rintro _ rfl
  rw [hr.2.1, show (10 : Int32) = Int32.ofNat 10 from rfl]
  refine ⟨fun h => ?_, fun h => ?_⟩
  · rw [cp_inj (by omega) (by omega)] at h
    refine cp_173 (cp_r1 ?_)
    rw [if_neg (by decide)]
    exact ⟨fun _ => k2 ok (by omega), fun h => absurd rfl h⟩
  · rw [cp_inj (by omega) (by omega)] at h
    refine cp_173 (cp_r1 ?_)
    rw [if_pos rfl]
    refine ⟨fun h => absurd h (by decide), fun _ => ?_⟩
    have hin : am_in (Int32.ofNat R.length) 10 := cp_in (by omega) (by decide)
    rintro _ rfl
    rw [cp_wI1, if_neg (by omega), hr.2.1, cp_cl (by omega)]
    refine ⟨hin, ?_⟩
    rintro _ rfl
    rintro _ rfl
    simp only [cp_wI1, show ¬ (83 : Nat) = 104 by decide, show ¬ (26 : Nat) = 75 by decide, false_and, and_false, if_false, hr.2.1]
    rw [cp_cl (by omega)]
    refine ⟨hin, ?_⟩
    rintro _ rfl
    rintro _ rfl
    simp only [cp_wI1, show ¬ (83 : Nat) = 104 by decide, show ¬ (83 : Nat) = 105 by decide, show ¬ (26 : Nat) = 75 by decide, false_and, and_false, if_false, hr.2.1]
    rw [cp_cl (by omega)]
    refine ⟨hin, ?_⟩
    rintro _ rfl
    rintro _ rfl
    simp only [cp_wI1, show ¬ (83 : Nat) = 104 by decide, show ¬ (83 : Nat) = 105 by decide, show ¬ (83 : Nat) = 106 by decide, show ¬ (26 : Nat) = 75 by decide, false_and, and_false, if_false, hr.2.1]
    rw [cp_cl (by omega)]
    refine ⟨hin, ?_⟩
    rintro _ rfl
    rintro _ rfl
    rintro _ rfl
    rintro _ rfl
    have hS : ∀ {S2 : cm_S}, S2 = cm_wI (cm_wI (cm_wI (cm_wI (cm_wI (cm_wI S 83 75 0) 104 R.length p1) 105 R.length p2) 106 R.length p3) 107 R.length p4) 83 26 (Int32.ofNat (R.length + 1)) → K (.inl (some (.int (Int32.ofNat (R.length + 1))))) S2 0 := by
      rintro _ rfl
      refine k0 _ ok (by omega) ⟨by rw [List.length_append, List.length_singleton]; omega, ?_, ?_⟩ ?_ ?_
      · simp [cp_wI1]
      · intro i q hq
        rcases ct_get_ap2 hq with ⟨hi, hq3⟩ | ⟨hi, hq3⟩
        · obtain ⟨u1, u2, u3, u4⟩ := hr.2.2 i q hq3
          have hne : ¬ i = R.length := by omega
          simp [cp_wI1, hne, u1, u2, u3, u4]
        · subst hi; subst hq3
          simp [cp_wI1]
      · simp [cp_wI1]
      · exact cf_tr (cf_wI rfl) (cf_tr (cf_wI rfl) (cf_tr (cf_wI rfl) (cf_tr (cf_wI rfl) (cf_tr (cf_wI rfl) (cf_wI rfl)))))
    have e1 : Int32.ofNat R.length + 1 = Int32.ofNat (R.length + 1) := cp_ad (b := 1)
    simp only [cp_wI1, show ¬ (83 : Nat) = 104 by decide, show ¬ (83 : Nat) = 105 by decide, show ¬ (83 : Nat) = 106 by decide, show ¬ (83 : Nat) = 107 by decide, show ¬ (26 : Nat) = 75 by decide, false_and, and_false, if_false, hr.2.1, e1, and_self, if_true]
    exact hS rfl
/-- the class's cores are again what was told -/
theorem cq_reset (h1 : ck_d S 21 T) (h2 : ck_d S 27 U) (hT : ∀ i, i < 8 → ct_wf (T i) ∧ ct_wf (U i) ∧ (T i = .leaf ↔ U i = .leaf)) (hs : ∀ i, i < 8 → ct_sz (T i) ≤ 150) (k : ∀ S2, ck_d S2 27 T → cf_W (cW_c 27 0 1200) S S2 → K (.inl (some (.int (Int32.ofNat (ct_c8 T 8))))) S2 0) :
    cm_At (am_XX L xs) (d + 4) 144 0 [some (.ref 0), none, none] [] S K := by
  have main : ∀ (m n : Nat) (S2 : cm_S) (K2 : cm_K), n + m = 8 → (∀ i, i < 8 → (i < n → (T i = .leaf → S2.1 (27 + 5) (150 * i) = 0 ∧ ¬ S2.1 (27 + 1) (150 * i) = 4) ∧ (¬ T i = .leaf → ck_t S2 27 (150 * i) (T i))) ∧ (n ≤ i → T i = .leaf → S2.1 (27 + 5) (150 * i) = 0 ∧ ¬ S2.1 (27 + 1) (150 * i) = 4)) → cf_W (cW_c 27 0 1200) S S2 → (∀ S3, ck_d S3 27 T → cf_W (cW_c 27 0 1200) S S3 → K2 (.inl (some (.int (Int32.ofNat (ct_c8 T 8))))) S3 0) → cm_At (am_XX L xs) (d + 4) 144 4 [some (.ref 0), some (.int (Int32.ofNat (ct_c8 T n))), some (.int (Int32.ofNat n))] [] S2 K2 := by
    intro m
    induction m with
    | zero =>
      intro n S2 K2 hn hi hc k
      have hn8 : n = 8 := by omega
      subst hn8
      exact cx_144_4 _ _ ⟨fun h => absurd h (by decide), fun _ => k S2 (fun i hi8 => (hi i hi8).1 hi8) hc⟩
    | succ m ih =>
      intro n S2 K2 hn hi hc k
      have hle := ct_c8_le (T := T) n
      have hk1 : ck_d S2 21 T := fun i hi8 => by
        have hcc : ∀ b j, 21 + 1 ≤ b → b ≤ 21 + 5 → cW_c 27 0 1200 b j = false := fun b j q1 q2 => decide_eq_false (by omega)
        refine ⟨fun ht => ?_, fun ht => ck_t_cf hc (fun b j q1 q2 _ _ => hcc b j q1 q2) ((h1 i hi8).2 ht)⟩
        rw [(hc _ _ (hcc (21 + 5) _ (by omega) (by omega))).1, (hc _ _ (hcc (21 + 1) _ (by omega) (by omega))).1]
        exact (h1 i hi8).1 ht
      refine cx_144_4 _ _ ⟨fun _ => ?_, fun h => absurd (by rw [show (8 : Int32) = Int32.ofNat 8 from rfl, cp_lt (by omega) (by omega)]; omega) h⟩
      rw [show Int32.ofNat n + 1 = Int32.ofNat (n + 1) from cp_ad (b := 1)]
      refine cp_164 hk1 (fun i hi => (hT i hi).1) (fun h => cp_r1 ⟨fun h => absurd h (by decide), fun _ => ?_⟩) (fun h => cp_r1 ⟨fun _ => ?_, fun h => absurd rfl h⟩)
      · have ht : ¬ T n = .leaf := by have := h.2.2; rw [cp_cl (by omega)] at this; exact this
        have hcount : Int32.ofNat (ct_c8 T n) + 1 = Int32.ofNat (ct_c8 T (n + 1)) := by
          show _ = Int32.ofNat (ct_c8 T n + (if ct_th (T n) = true then 1 else 0))
          rw [if_pos (ct_th_of.mpr ht)]
          exact cp_ad (b := 1)
        refine cp_165 (cp_r1 (cp_165 (cp_r1 ?_)))
        rw [cp_rt, hcount]
        have hsn := hs n (by omega)
        refine cp_21 (by decide) (by decide) (by decide) (hT n (by omega)).1 ht ((hk1 n (by omega)).2 ht) (show 150 * n + ct_sz (T n) ≤ 1200 by omega) (fun S3 t3 c3 => cp_r0 ?_)
        refine ih (n + 1) S3 _ (by omega) (fun i hi8 => ⟨fun hlt => ?_, fun hge ht2 => ?_⟩) (cf_tr hc (cf_mono c3 (fun b j h => decide_eq_true (by have h := of_decide_eq_true h; omega)))) (fun S4 g1 g2 => k S4 g1 g2)
        · by_cases hin : i = n
          · subst hin
            exact ⟨fun hl => absurd hl ht, fun _ => t3⟩
          · have hno : ∀ b j, 150 * i ≤ j → j < 150 * i + 150 → cW_c 27 (150 * n) (150 * n + ct_sz (T n)) b j = false := fun b j q1 q2 => decide_eq_false (by omega)
            obtain ⟨g1, g2⟩ := (hi i hi8).1 (by omega)
            refine ⟨fun hl => ?_, fun hl => ck_t_cf c3 (fun b j _ _ q3 q4 => hno b j q3 (by have := hs i hi8; omega)) (g2 hl)⟩
            rw [(c3 _ _ (hno _ _ (Nat.le_refl _) (by omega))).1, (c3 _ _ (hno _ _ (Nat.le_refl _) (by omega))).1]
            exact g1 hl
        · have hno : ∀ b j, 150 * i ≤ j → j < 150 * i + 150 → cW_c 27 (150 * n) (150 * n + ct_sz (T n)) b j = false := fun b j q1 q2 => decide_eq_false (by omega)
          rw [(c3 _ _ (hno _ _ (Nat.le_refl _) (by omega))).1, (c3 _ _ (hno _ _ (Nat.le_refl _) (by omega))).1]
          exact (hi i hi8).2 (by omega) ht2
      · have ht : T n = .leaf := Classical.byContradiction (fun hc => h ⟨by rw [cp_tI (by omega)]; omega, by rw [cp_tI (by omega)]; omega, by rw [cp_cl (by omega)]; exact hc⟩)
        have hcount : ct_c8 T n = ct_c8 T (n + 1) := by
          show _ = ct_c8 T n + (if ct_th (T n) = true then 1 else 0)
          rw [if_neg (fun hc => ct_th_of.mp hc ht), Nat.add_zero]
        rw [hcount]
        refine cp_shz (ih (n + 1) S2 _ (by omega) (fun i hi8 => ⟨fun hlt => ?_, fun hge ht2 => (hi i hi8).2 (by omega) ht2⟩) hc k)
        by_cases hin : i = n
        · subst hin
          exact ⟨fun hl => (hi i hi8).2 (Nat.le_refl _) hl, fun hl => absurd ht hl⟩
        · exact (hi i hi8).1 (by omega)
  refine cx_144_0 ?_
  exact main 8 0 S K rfl (fun i hi => ⟨fun h => absurd h (by omega), fun _ hl => (h2 i hi).1 ((hT i hi).2.2.mp hl)⟩) cf_rfl k
/-- what a keeping changes in the model -/
def cW_kp (pl b j : Nat) : Bool := decide (92 ≤ b ∧ b ≤ 98 ∧ pl ≤ j ∧ j < pl + 1200 ∨ b = 83 ∧ (j = 17 ∨ j = 19 ∨ j = 20 ∨ j = 23) ∨ b = 100 ∨ b = 101)
theorem cW_cy_kp {pl i n : Nat} (hi : i < 8) (hn : n ≤ 150) {S S2 : cm_S} (h : cf_W (cW_cy (List.range' (pl + 150 * i) n)) S S2) : cf_W (cW_kp pl) S S2 := cf_mono h (fun b j hb => decide_eq_true (by
  have hb := of_decide_eq_true hb
  rcases hb with hb | hb
  · have := ct_range hn j hb.2.2
    omega
  · exact Or.inr hb))
/-- the model's cores are again what was told -/
theorem cs_reset {c : Nat} (h1 : cl_d S 0 0 T) (h3 : cl_i S T) (hT : ct_ds T) (hcs : cl_cs S c) (hc : c < 2000000000) (k : ∀ S2 c2, cl_d S2 8 1200 T → S2.1 83 75 = 0 → c2 ≤ c + 8 → cl_cs S2 c2 → cf_W (fun b j => cW_kp 1200 b j || decide (b = 83 ∧ j = 75 ∨ b = 103 ∧ 8 ≤ j ∧ j < 16)) S S2 → K (.inl (some (.int (Int32.ofNat (ct_c8 T 8))))) S2 0) :
    cm_At (am_XX L xs) (d + 155) 232 0 [some (.ref 83), none, none] [] S K := by
  have main : ∀ (m n c2 : Nat) (S2 : cm_S) (K2 : cm_K), n + m = 8 → c2 ≤ c + n → cl_cs S2 c2 → S2.1 83 75 = 0 → (∀ i, i < n → ¬ T i = .leaf → S2.1 103 (8 + i) = Int32.ofNat (1200 + 150 * i) ∧ cl_t S2 (ct_pre (T i)) (Int32.ofNat (1200 + 150 * i)) (List.range' (1200 + 150 * i) (ct_sz (T i)))) → cf_W (fun b j => cW_kp 1200 b j || decide (b = 83 ∧ j = 75 ∨ b = 103 ∧ 8 ≤ j ∧ j < 16)) S S2 → (∀ S3 c3, cl_d S3 8 1200 T → S3.1 83 75 = 0 → c3 ≤ c + 8 → cl_cs S3 c3 → cf_W (fun b j => cW_kp 1200 b j || decide (b = 83 ∧ j = 75 ∨ b = 103 ∧ 8 ≤ j ∧ j < 16)) S S3 → K2 (.inl (some (.int (Int32.ofNat (ct_c8 T 8))))) S3 0) → cm_At (am_XX L xs) (d + 155) 232 9 [some (.ref 83), some (.int (Int32.ofNat (ct_c8 T n))), some (.int (Int32.ofNat n))] [] S2 K2 := by
    intro m
    induction m with
    | zero =>
      intro n c2 S2 K2 hn hc2 hcs2 hth hi hcf k
      have hn8 : n = 8 := by omega
      subst hn8
      exact cx_232_9 _ _ ⟨fun h => absurd h (by decide), fun _ => k S2 c2 hi hth hc2 hcs2 hcf⟩
    | succ m ih =>
      intro n c2 S2 K2 hn hc2 hcs2 hth hi hcf k
      have hle := ct_c8_le (T := T) n
      have far : ∀ {b j : Nat}, (cW_kp 1200 b j || decide (b = 83 ∧ j = 75 ∨ b = 103 ∧ 8 ≤ j ∧ j < 16)) = false → S2.1 b j = S.1 b j ∧ S2.2 b j = S.2 b j := fun h => hcf _ _ h
      refine cx_232_9 _ _ ⟨fun _ => ⟨cp_in (by omega) (by decide), ?_⟩, fun h => absurd (by rw [show (8 : Int32) = Int32.ofNat 8 from rfl, cp_lt (by omega) (by omega)]; omega) h⟩
      rw [cp_cl (by omega)]
      rintro _ rfl
      rw [(far (b := 102) (j := n) (by unfold cW_kp; simp)).1, show Int32.ofNat n + 1 = Int32.ofNat (n + 1) from cp_ad (b := 1)]
      by_cases ht : T n = .leaf
      · rw [(h3 n (by omega)).1 ht]
        have hcount : ct_c8 T n = ct_c8 T (n + 1) := by
          show _ = ct_c8 T n + (if ct_th (T n) = true then 1 else 0)
          rw [if_neg (fun hc => ct_th_of.mp hc ht), Nat.add_zero]
        rw [hcount]
        refine ⟨fun _ => ?_, fun h => absurd rfl h⟩
        refine ih (n + 1) c2 S2 _ (by omega) (by omega) hcs2 hth (fun i hlt hne => ?_) hcf k
        by_cases hin : i = n
        · subst hin; exact absurd ht hne
        · exact hi i (by omega) hne
      · rw [(h3 n (by omega)).2 ht]
        refine ⟨fun h => absurd h (by decide), fun _ => ⟨cp_in (by omega) (by decide), ?_⟩⟩
        rintro _ rfl
        have hcount : Int32.ofNat (ct_c8 T n) + 1 = Int32.ofNat (ct_c8 T (n + 1)) := by
          show _ = Int32.ofNat (ct_c8 T n + (if ct_th (T n) = true then 1 else 0))
          rw [if_pos (ct_th_of.mpr ht)]
          exact cp_ad (b := 1)
        obtain ⟨hco, hcan⟩ := hT n (by omega) ht
        obtain ⟨p1, p2, p3⟩ := ct_pre_co hco
        have hsz : ct_sz (ct_pre (T n)) = ct_sz (T n) := ct_map_sz _
        have h150 := hco.2.2.2.2.2.2.2
        have hlen := ct_co_len p1
        obtain ⟨r1, r2⟩ := h1 n (by omega) ht
        have r2' : cl_t S2 (ct_pre (T n)) (Int32.ofNat (0 + 150 * n)) (List.range' (0 + 150 * n) (ct_sz (T n))) := cl_t_cf hcf _ p1.1 _ _ (fun b x q1 q2 hx => by
          have := ct_range h150 x hx
          unfold cW_kp
          simp only [Bool.or_eq_false_iff, decide_eq_false_iff_not]
          omega) r2
        rw [(far (b := 103) (j := n) (by unfold cW_kp; simp; omega)).1, show S.1 103 n = Int32.ofNat (0 + 150 * n) by rw [← r1, Nat.zero_add]]
        rw [show (150 : Int32) = Int32.ofNat 150 from rfl, show (1200 : Int32) = Int32.ofNat 1200 from rfl, cp_ml, cp_ad, hcount]
        rw [show d + 154 = (d + 150 - ct_sz (ct_pre (T n))) + ct_sz (ct_pre (T n)) + 4 by omega]
        refine cp_203 (ct_co_gd p1) (by omega) r2' (by omega) (fun x g1 g2 hx => ?_) hcs2 (by omega) (fun S3 q t3 a3 v3 cs3 c3 => cp_r1 ?_)
        · have := ct_range h150 x hx
          omega
        rw [show (8 : Int32) = Int32.ofNat 8 from rfl, cp_ad, cp_cl (by omega)]
        refine ⟨cp_in (by omega) (by decide), ?_⟩
        rintro _ rfl
        rw [p3, hsz] at t3
        rw [hsz] at c3
        have hq : q = Int32.ofNat (1200 + 150 * n) := by
          have hpos := ct_sz_ne hco.1 hco.2.1
          have hw3 := p1.1
          revert t3
          refine ct_ind (P := fun u => ct_sz u = ct_sz (T n) → cl_t S3 u q (List.range' (1200 + 150 * n) (ct_sz (T n))) → q = Int32.ofNat (1200 + 150 * n)) (fun h => by rw [ct_sz_lf] at h; omega) (fun e a b c _ _ _ _ _ h => ?_) _ hw3 hsz
          obtain ⟨i, fa, fb, fc, g1, _, _, _, _, _, g2⟩ := h
          rw [g1]
          obtain ⟨z, hz⟩ : ∃ z, ct_sz (T n) = z + 1 := ⟨ct_sz (T n) - 1, by omega⟩
          rw [hz, List.range'_succ] at g2
          injection g2 with g2 _
          rw [g2]
        have hc3 := cW_cy_kp (pl := 1200) (i := n) (by omega) h150 c3
        have hcf3 : cf_W (fun b j => cW_kp 1200 b j || decide (b = 83 ∧ j = 75 ∨ b = 103 ∧ 8 ≤ j ∧ j < 16)) S (cm_wI S3 103 (8 + n) q) := cf_tr hcf (cf_tr (cf_mono hc3 (fun b j h => by rw [h]; rfl)) (cf_wI (by
          rw [Bool.or_eq_true]; exact Or.inr (decide_eq_true (by omega)))))
        rw [show d + 150 - ct_sz (ct_pre (T n)) + ct_sz (ct_pre (T n)) + 4 = d + 154 by omega]
        refine ih (n + 1) (c2 + 1) _ (cm_sh K2 0) (by omega) (by omega) ?_ ?_ (fun i hlt hne => ?_) hcf3 (fun S4 c4 g1 g2 g3 g4 g5 => k S4 c4 g1 g2 g3 g4 g5)
        · exact ⟨by rw [cp_wI1, if_neg (by omega)]; exact cs3.1, fun j hj => by rw [cp_wI1, if_neg (by omega)]; exact cs3.2 j hj⟩
        · rw [cp_wI1, if_neg (by omega), (hc3 83 75 (by unfold cW_kp; simp)).1]; exact hth
        · by_cases hin : i = n
          · subst hin
            refine ⟨by rw [cp_wI1, if_pos ⟨rfl, rfl⟩]; exact hq, ?_⟩
            rw [← hq]
            exact cl_t_cf (W := fun b _ => decide (b = 103)) (cf_wI (decide_eq_true rfl)) _ p1.1 _ _ (fun b x q1 q2 _ => decide_eq_false (by omega)) t3
          · obtain ⟨g1, g2⟩ := hi i (by omega) hne
            obtain ⟨hco2, _⟩ := hT i (by omega) hne
            have h1502 := hco2.2.2.2.2.2.2.2
            refine ⟨by rw [cp_wI1, if_neg (by omega), (hc3 103 (8 + i) (by unfold cW_kp; simp)).1]; exact g1, ?_⟩
            refine cl_t_cf (W := fun b _ => decide (b = 103)) (cf_wI (decide_eq_true rfl)) _ (ct_pre_co hco2).1.1 _ _ (fun b x q1 q2 _ => decide_eq_false (by omega)) ?_
            refine cl_t_cf c3 _ (ct_pre_co hco2).1.1 _ _ (fun b x q1 q2 hx => ?_) g2
            have e1 := ct_range h1502 x hx
            refine decide_eq_false ?_
            rintro (hc | hc | hc | hc)
            · have e2 := ct_range h150 x hc.2.2
              omega
            · omega
            · omega
            · omega
  refine cx_232_0 ?_
  rintro _ rfl
  exact main 8 0 c _ K rfl (Nat.le_refl _) ⟨by rw [cp_wI1, if_neg (by omega)]; exact hcs.1, fun j hj => by rw [cp_wI1, if_neg (by omega)]; exact hcs.2 j hj⟩ (by rw [cp_wI1, if_pos ⟨rfl, rfl⟩]) (fun i hi => absurd hi (by omega)) (cf_wI (by rw [Bool.or_eq_true]; exact Or.inr (decide_eq_true (by omega)))) k
end CP50
