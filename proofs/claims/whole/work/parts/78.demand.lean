/-! ## 78 Demand finds what is needed; parameters, needs, isAbsent of the class -/
def cW_dd (b j : Nat) : Bool := decide (34 ≤ b ∧ b ≤ 36 ∨ b = 33 ∧ j = 4)
def cu_eq (Q Q2 : Nat → Nat → Bool) : Nat → Bool
  | 0 => true
  | g + 1 => cu_eq Q Q2 g && decide (cu_mf (Q2 g) = cu_mf (Q g))
theorem cu_eq_of {Q Q2 : Nat → Nat → Bool} : ∀ n, cu_eq Q Q2 n = true ↔ ∀ g, g < n → cu_mf (Q2 g) = cu_mf (Q g)
  | 0 => ⟨fun _ g hg => by omega, fun _ => rfl⟩
  | n + 1 => by
    show (cu_eq Q Q2 n && decide (cu_mf (Q2 n) = cu_mf (Q n))) = true ↔ _
    rw [Bool.and_eq_true, cu_eq_of n, decide_eq_true_eq]
    refine ⟨fun h g hg => ?_, fun h => ⟨fun g hg => h g (by omega), h n (by omega)⟩⟩
    by_cases hgn : g = n
    · rw [hgn]; exact h.2
    · exact h.1 g (by omega)
theorem cu_eq_it {U : Nat → ct_T} {n : Nat} : cu_eq (cu_it U n) (cu_it U (n + 1)) 8 = true ↔ cu_it U (n + 1) = cu_it U n := by
  rw [cu_eq_of]
  refine ⟨fun h => ?_, fun h g _ => by rw [h]⟩
  funext g kk
  by_cases hg : g < 8 ∧ kk < 4
  · exact cu_mf_inj (h g (by omega)) kk hg.2
  · have hM := cu_M_le (U := U) (g := g)
    have z : ∀ m, cu_it U m g kk = false := fun m => by
      cases hz : cu_it U m g kk with
      | false => rfl
      | true => have := cu_it_al m g kk hz; omega
    rw [z, z]
theorem ck_t_in {S : cm_S} {c : Nat} : ∀ (n : Nat) (t : ct_T), ct_wf t → ∀ r, ¬ t = .leaf → ck_t S c r t → ck_t S c (r + ct_pd n t) (cu_in n t) ∧ ¬ cu_in n t = .leaf
  | 0, t, hw, r, hn, h => ⟨h, hn⟩
  | n + 1, t, hw, r, hn, h => by
    revert r hn h
    refine ct_ind (P := fun t => ∀ r, ¬ t = .leaf → ck_t S c r t → ck_t S c (r + ct_pd (n + 1) t) (cu_in (n + 1) t) ∧ ¬ cu_in (n + 1) t = .leaf) (fun p hn => absurd rfl hn) (fun e x y z hw _ _ _ r hn h => ?_) t hw
    rw [cu_in_nd, ct_pd_nd]
    by_cases h4 : e.1 = 4
    · rw [if_pos h4, if_pos h4, show r + (1 + ct_pd n x) = r + 1 + ct_pd n x by omega]
      rw [ck_t_nd] at h
      exact ck_t_in n x (ct_wf_nd hw).2.2.2.2.1 (r + 1) (ct_q1 hw (Or.inl h4)).1 h.2.2.2.1
    · rw [if_neg h4, if_neg h4]
      exact ⟨h, hn⟩
section CP78
variable {L : Nat} {xs : Nat → Int32} {d : Nat} {U : Nat → ct_T}
theorem ct_ds_wf (hU : ct_ds U) : ∀ i, i < 8 → ct_wf (U i) := fun i hi => by
  by_cases hl : U i = .leaf
  · rw [hl]; trivial
  · exact (hU i hi hl).1.1
/-- what was found becomes what was before -/
theorem cp_37c {Q : Nat → Nat → Bool} : ∀ (m i : Nat) (S : cm_S) (K : cm_K), i + m = 8 → ck_q S 36 Q → (∀ g, g < i → S.1 35 g = S.1 36 g) → (∀ S2, cf_W cW_dd S S2 → ck_q S2 35 Q → ck_q S2 36 Q → cm_At (am_XX L xs) (d + 2) 37 34 [some (.ref 33), some (.int 1), some (.int 0), none, none] [] S2 K) →
    cm_At (am_XX L xs) (d + 2) 37 2 [some (.ref 33), some (.int (Int32.ofNat i)), none, none, none] [] S K
  | 0, i, S, K, hm, hq, hc, k => by
    refine cx_37_2 _ ⟨fun h => absurd h ?_, fun _ => k S cf_rfl (fun g hg => by rw [hc g (by omega)]; exact hq g hg) hq⟩
    rw [show (8 : Int32) = Int32.ofNat 8 from rfl, cp_lt (by omega) (by omega)]; omega
  | m + 1, i, S, K, hm, hq, hc, k => by
    refine cx_37_2 _ ⟨fun _ => ?_, fun h => absurd ?_ h⟩
    · refine cp_166 (by decide) (cp_r1 ?_)
      rw [cp_g_at (by rw [cu_rl.2.2.1]; omega) (by decide +kernel)]
      refine cp_167 (by decide) (cp_r0 ?_)
      rw [cp_w_at (by rw [cu_rl.2.1]; omega) (by decide +kernel), show Int32.ofNat i + 1 = Int32.ofNat (i + 1) from cp_ad (b := 1)]
      refine cp_shz (cp_shz (cp_37c m (i + 1) _ K (by omega) (fun g hg => by rw [cp_wI1, if_neg (by omega)]; exact hq g hg) (fun g hg => ?_) (fun S2 c2 => k S2 (cf_tr (cf_wI (decide_eq_true (by omega))) c2))))
      rw [cp_wI1, cp_wI1]
      by_cases hgi : g = i
      · rw [if_pos ⟨rfl, hgi⟩, if_neg (by omega), hgi]
      · rw [if_neg (by omega), if_neg (by omega)]; exact hc g (by omega)
    · rw [show (8 : Int32) = Int32.ofNat 8 from rfl, cp_lt (by omega) (by omega)]; omega
/-- a round of Demand, definition by definition -/
theorem cp_37l {n : Nat} (hU : ct_ds U) : ∀ (m i : Nat) (S : cm_S) (o3 o4 : Option Value) (K : cm_K), i + m = 8 → ck_d S 27 U → ck_q S 35 (cu_it U n) → (∀ g, g < i → S.1 36 g = Int32.ofNat (cu_mf (cu_it U (n + 1) g))) → (∀ g, i ≤ g → g < 8 → S.1 36 g = Int32.ofNat (cu_mf (cu_it U n g))) → (∀ S2, cf_W cW_dd S S2 → ck_q S2 35 (cu_it U n) → ck_q S2 36 (cu_it U (n + 1)) → K (.inl (some (.int (if cu_eq (cu_it U n) (cu_it U (n + 1)) 8 = true then 1 else 0)))) S2 0) →
    cm_At (am_XX L xs) (d + 6) 37 34 [some (.ref 33), some (.int (if cu_eq (cu_it U n) (cu_it U (n + 1)) i = true then 1 else 0)), some (.int (Int32.ofNat i)), o3, o4] [] S K
  | 0, i, S, o3, o4, K, hm, hd, hq, h1, h2, k => by
    refine cx_37_34 _ _ _ _ ⟨fun h => absurd h ?_, fun _ => ⟨?_, ?_⟩⟩
    · rw [show (8 : Int32) = Int32.ofNat 8 from rfl, cp_lt (by omega) (by omega)]; omega
    · split
      · exact Or.inr rfl
      · exact Or.inl rfl
    · have hi8 : i = 8 := by omega
      subst hi8
      exact k S cf_rfl hq (fun g hg => h1 g (by omega))
  | m + 1, i, S, o3, o4, K, hm, hd, hq, h1, h2, k => by
    have hi : i < 8 := by omega
    have hwf := ct_ds_wf hU
    refine cx_37_34 _ _ _ _ ⟨fun _ => ?_, fun h => absurd ?_ h⟩
    · refine cp_166 (by decide) (cp_r1 ?_)
      rw [cp_g_at (by rw [cu_rl.2.1]; omega) (by decide +kernel), hq i hi, show Int32.ofNat i + 1 = Int32.ofNat (i + 1) from cp_ad (b := 1)]
      have hlt := cu_mf_lt (f := cu_it U n i)
      refine ⟨fun h0 => ?_, fun h0 => ?_⟩
      · have hz : cu_mf (cu_it U n i) = 0 := (cp_inj (by omega) (by omega)).mp (h0.trans (show (0 : Int32) = Int32.ofNat 0 from rfl))
        have hz2 : cu_mf (cu_it U (n + 1) i) = 0 := cu_mf_0.mpr (fun k hk => by
          cases hc : cu_it U (n + 1) i k with
          | false => rfl
          | true =>
            have h3 := cu_mf_0.mp hz k hk
            rw [cu_it_dn hc] at h3
            exact h3)
        have hs : cu_eq (cu_it U n) (cu_it U (n + 1)) (i + 1) = cu_eq (cu_it U n) (cu_it U (n + 1)) i := by
          show (cu_eq (cu_it U n) (cu_it U (n + 1)) i && decide (cu_mf (cu_it U (n + 1) i) = cu_mf (cu_it U n i))) = _
          rw [hz, hz2]; simp
        have go := cp_37l (n := n) hU m (i + 1) S o3 o4 K (by omega) hd hq (fun g hg => ?_) (fun g hg => h2 g (by omega)) k
        · rw [hs] at go
          exact cp_shz go
        · by_cases hgi : g = i
          · rw [hgi, h2 i (Nat.le_refl _) hi, hz, hz2]
          · exact h1 g (by omega)
      · have hne : ¬ cu_mf (cu_it U n i) = 0 := fun hc => h0 (by rw [hc]; rfl)
        have hex : ¬ U i = .leaf := fun hc => hne (cu_mf_0.mpr (fun kk hk => by
          cases hz : cu_it U n i kk with
          | false => rfl
          | true =>
            have := (cu_it_al n i kk hz).2
            unfold cu_M at this
            rw [hc] at this
            exact absurd this (by show ¬ kk < 0; omega)))
        obtain ⟨hco, hcan⟩ := hU i hi hex
        have hQ4 : ∀ g k, cu_it U n g k = true → k < 4 := fun g k h => by have := cu_it_al n g k h; have := cu_M_le (U := U) (g := g); omega
        refine cp_39 hwf hQ4 hi hex hq hd hco.2.2.2.2.2.2.1 (fun e he => ?_) hco.2.2.1 hco.2.2.2.2.2.2.2 (fun S5 c5 r5 s5 => cp_r0 ?_)
        · rcases (cu_ok_can hco hcan e he).1 with h | h
          · exact Or.inl h
          · exact Or.inr ⟨h.1, by omega⟩
        · have d5 := ck_d_fr (a := 27) c5 (fun b j q1 q2 => decide_eq_false (by omega)) hd
          rintro _ rfl
          rw [r5]
          refine cp_32U d5 hwf hi (cp_r1 ?_)
          have hM := cu_M_le (U := U) (g := i)
          rw [show (3 : Int32) = Int32.ofNat 3 from rfl, cp_ml]
          refine cp_168 (by decide) (cp_r2 ?_)
          rw [cp_g_at (by rw [cu_rl.1]; omega) (by decide +kernel)]
          refine cp_36 d5 hwf hi (cp_r1 ?_)
          have hin := ck_sa_in 4 (U i) (hwf i hi) 0 hex s5
          rw [Nat.zero_add] at hin
          have hlow := cu_lo (x := S5.2 34 (cu_M U i * 3)) (f := fun b => cu_nq (cu_it U n) (cu_M U) (cu_in 4 (U i)) b) (fun b hb => by
            have h3 := hin 0 b (by omega) (by omega)
            rw [show 3 * ct_pd 4 (U i) + 0 = cu_M U i * 3 by unfold cu_M; omega, show 64 * 0 + b = b by omega] at h3
            exact h3) (m := cu_M U i) (by omega)
          rw [hlow]
          have hF : cu_mf (fun k => cu_nq (cu_it U n) (cu_M U) (cu_in 4 (U i)) k && decide (k < cu_M U i)) = cu_mf (cu_it U (n + 1) i) := by
            refine cu_mf_co (fun k hk => ?_)
            show _ = (cu_it U n i k && cu_nq (cu_it U n) (cu_M U) (cu_in 4 (U i)) (cu_pv U i k))
            by_cases hkM : k < cu_M U i
            · have hpv : cu_pv U i k = k := by
                unfold cu_pv
                rw [cu_pn_can hco hcan hkM, cp_cl (by omega)]
              have hin2 := cu_it_in hwf n i k hi hkM
              rw [hpv] at hin2 ⊢
              rw [decide_eq_true hkM, Bool.and_true]
              cases hx : cu_nq (cu_it U n) (cu_M U) (cu_in 4 (U i)) k with
              | false => rw [Bool.and_false]
              | true => rw [hin2 hx]; rfl
            · have : cu_it U n i k = false := by
                cases hz : cu_it U n i k with
                | false => rfl
                | true => exact absurd (cu_it_al n i k hz).2 hkM
              rw [this, decide_eq_false hkM, Bool.and_false, Bool.false_and]
          rw [hF]
          refine cp_167 (by decide) (cp_r0 ?_)
          rw [cp_w_at (by rw [cu_rl.2.2.1]; omega) (by decide +kernel)]
          have c6 : cf_W cW_dd S (cm_wI S5 36 i (Int32.ofNat (cu_mf (cu_it U (n + 1) i)))) := cf_tr (cf_mono c5 (fun b j h => decide_eq_true (by have h := of_decide_eq_true h; omega))) (cf_wI (decide_eq_true (by omega)))
          have q6 : ck_q (cm_wI S5 36 i (Int32.ofNat (cu_mf (cu_it U (n + 1) i)))) 35 (cu_it U n) := fun g hg => by
            rw [cp_wI1, if_neg (by omega), (c5 35 g (decide_eq_false (by omega))).1]; exact hq g hg
          have hs : cu_eq (cu_it U n) (cu_it U (n + 1)) (i + 1) = (cu_eq (cu_it U n) (cu_it U (n + 1)) i && decide (cu_mf (cu_it U (n + 1) i) = cu_mf (cu_it U n i))) := rfl
          have go := fun o3 o4 => cp_37l (n := n) hU m (i + 1) (cm_wI S5 36 i (Int32.ofNat (cu_mf (cu_it U (n + 1) i)))) o3 o4 K (by omega) (ck_d_fr (a := 27) (cf_wI (W := cW_dd) (decide_eq_true (by omega))) (fun b j q1 q2 => decide_eq_false (by omega)) d5) q6 (fun g hg => by
            rw [cp_wI1]
            by_cases hgi : g = i
            · rw [if_pos ⟨rfl, hgi⟩, hgi]
            · rw [if_neg (by omega), (c5 36 g (decide_eq_false (by omega))).1]; exact h1 g (by omega)) (fun g hg1 hg2 => by
            rw [cp_wI1, if_neg (by omega), (c5 36 g (decide_eq_false (by omega))).1]; exact h2 g (by omega) hg2) (fun S2 c2 => k S2 (cf_tr c6 c2))
          rw [hs] at go
          have hlt2 := cu_mf_lt (f := cu_it U (n + 1) i)
          have st : ∀ {S0 : cm_S} {K0 : cm_K} {y pc : Nat} {LL : am_L} {dd : Nat}, cm_At (am_XX L xs) dd y pc LL [] S0 K0 → cm_At (am_XX L xs) dd y pc LL [] S0 (cm_sh (cm_sh (cm_sh (cm_sh (cm_sh (cm_sh K0 0) 0) 0) 0) 0) 0) := fun h => cp_shz (cp_shz (cp_shz (cp_shz (cp_shz (cp_shz h)))))
          refine ⟨fun hq0 => ?_, fun hq0 => ?_⟩
          · have hf : cu_eq (cu_it U n) (cu_it U (n + 1)) i = false := by
              cases hb : cu_eq (cu_it U n) (cu_it U (n + 1)) i with
              | false => rfl
              | true => rw [hb, if_pos rfl] at hq0; exact absurd hq0 (by decide)
            rw [hf, Bool.false_and] at go
            exact st (go _ _)
          · have hf : cu_eq (cu_it U n) (cu_it U (n + 1)) i = true := by
              cases hb : cu_eq (cu_it U n) (cu_it U (n + 1)) i with
              | true => rfl
              | false => rw [hb, if_neg (by decide)] at hq0; exact absurd rfl hq0
            rw [hf, Bool.true_and] at go
            refine cp_166 (by decide) (cp_r1 ?_)
            rw [cp_g_at (by rw [cu_rl.2.1]; omega) (by decide +kernel), q6 i hi]
            refine ⟨fun he => ?_, fun he => ?_⟩
            · rw [cp_inj (by omega) (by omega)] at he
              rw [decide_eq_true he, if_pos rfl] at go
              exact cp_shz (st (go _ _))
            · rw [cp_inj (by omega) (by omega)] at he
              rw [decide_eq_false he, if_neg (by decide)] at go
              exact cp_shz (st (go _ _))
    · rw [show (8 : Int32) = Int32.ofNat 8 from rfl, cp_lt (by omega) (by omega)]; omega
/-- the rounds of Demand -/
theorem cp_35l (hU : ct_ds U) : ∀ (m n : Nat) (S : cm_S) (K : cm_K), n + m = 33 → n + cu_c (cu_it U n) 32 ≤ 32 → ck_d S 27 U → ck_q S 36 (cu_it U n) → (∀ S2, cf_W cW_dd S S2 → ck_q S2 35 (cu_lim U) → ck_q S2 36 (cu_lim U) → K (.inl none) S2 0) →
    cm_At (am_XX L xs) (d + 7) 35 31 [some (.ref 33), some (.int 0), some (.int (Int32.ofNat n))] [] S K
  | 0, n, S, K, hm, hc, hd, hq, k => by omega
  | m + 1, n, S, K, hm, hc, hd, hq, k => by
    refine cx_35_31 _ _ ⟨fun h => absurd h ?_, fun _ => ⟨fun _ => ?_, fun h => absurd rfl h⟩⟩
    · rw [show (32 : Int32) = Int32.ofNat 32 from rfl, cp_lt (by omega) (by omega)]; omega
    · refine cx_37_0 ?_
      refine cp_37c 8 0 S _ rfl hq (fun g hg => by omega) (fun S1 c1 q1 q2 => ?_)
      have d1 := ck_d_fr (a := 27) c1 (fun b j q1 q2 => decide_eq_false (by omega)) hd
      refine cp_37l (d := d) (n := n) hU 8 0 S1 none none _ rfl d1 q1 (fun g hg => by omega) (fun g _ hg => q2 g hg) (fun S2 c2 q3 q4 => cp_r1 ?_)
      rw [show Int32.ofNat n + 1 = Int32.ofNat (n + 1) from cp_ad (b := 1)]
      by_cases hs : cu_it U (n + 1) = cu_it U n
      · rw [if_pos (cu_eq_it.mpr hs)]
        have hl := cu_lim_of (by omega) hs
        rw [hs] at q4
        rw [hl] at q3 q4
        have kk := k S2 (cf_tr c1 c2) q3 q4
        exact cx_35_31 _ _ ⟨fun _ => kk, fun _ => ⟨fun h => absurd h (by decide), fun _ => kk⟩⟩
      · rw [if_neg (fun hc => hs (cu_eq_it.mp hc))]
        have := cu_it_le hs
        exact cp_shz (cp_35l hU m (n + 1) S2 K (by omega) (by omega) (ck_d_fr (a := 27) c2 (fun b j q1 q2 => decide_eq_false (by omega)) d1) q4 (fun S3 c3 => k S3 (cf_tr (cf_tr c1 c2) c3)))
theorem cp_35i (hU : ct_ds U) : ∀ (m i : Nat) (S : cm_S) (K : cm_K), i + m = 8 → ck_d S 27 U → (∀ g, g < i → S.1 36 g = Int32.ofNat (cu_mf (cu_al U g))) → (∀ S2, cf_W cW_dd S S2 → ck_q S2 35 (cu_lim U) → ck_q S2 36 (cu_lim U) → K (.inl none) S2 0) →
    cm_At (am_XX L xs) (d + 7) 35 2 [some (.ref 33), some (.int (Int32.ofNat i)), none] [] S K
  | 0, i, S, K, hm, hd, h1, k => by
    refine cx_35_2 _ ⟨fun h => absurd h ?_, fun _ => ?_⟩
    · rw [show (8 : Int32) = Int32.ofNat 8 from rfl, cp_lt (by omega) (by omega)]; omega
    · exact cp_35l hU 33 0 S K rfl (by have := cu_c_le (Q := cu_it U 0) 32; omega) hd (fun g hg => h1 g (by omega)) k
  | m + 1, i, S, K, hm, hd, h1, k => by
    refine cx_35_2 _ ⟨fun _ => ?_, fun h => absurd ?_ h⟩
    · refine cp_36 hd (ct_ds_wf hU) (by omega) (cp_r1 ?_)
      refine cp_167 (by decide) (cp_r0 ?_)
      rw [cp_w_at (by rw [cu_rl.2.2.1]; omega) (by decide +kernel), show Int32.ofNat i + 1 = Int32.ofNat (i + 1) from cp_ad (b := 1)]
      have c1 : ∀ x, cf_W cW_dd S (cm_wI S 36 i x) := fun x => cf_wI (decide_eq_true (by omega))
      refine cp_shz (cp_shz (cp_35i hU m (i + 1) _ K (by omega) (ck_d_fr (a := 27) (c1 _) (fun b j q1 q2 => decide_eq_false (by omega)) hd) (fun g hg => ?_) (fun S2 c2 => k S2 (cf_tr (c1 _) c2))))
      rw [cp_wI1]
      by_cases hgi : g = i
      · rw [if_pos ⟨rfl, hgi⟩, hgi]
        refine congrArg Int32.ofNat (cu_mf_co (fun k _ => ?_))
        unfold cu_al
        rw [decide_eq_true (by omega : i < 8), Bool.true_and]
      · rw [if_neg (by omega)]; exact h1 g (by omega)
    · rw [show (8 : Int32) = Int32.ofNat 8 from rfl, cp_lt (by omega) (by omega)]; omega
/-- Demand finds what is needed -/
theorem cp_35 {S : cm_S} {K : cm_K} (hU : ct_ds U) (hd : ck_d S 27 U) (k : ∀ S2, cf_W cW_dd S S2 → ck_q S2 35 (cu_lim U) → ck_q S2 36 (cu_lim U) → K (.inl none) S2 0) :
    cm_At (am_XX L xs) (d + 7) 35 0 [some (.ref 33), none, none] [] S K :=
  cx_35_0 (cp_35i hU 8 0 S K rfl hd (fun g hg => by omega) k)
end CP78
