/-! ## a30 the run machine: a value shown -/
def de_pr (A : cm_S) (x : Int64) : cm_S := cm_wJ A 77 3 (31 * A.2 77 3 + x)
def me_pr (S : cm_S) (x : Int64) : cm_S := cm_wJ S 83 71 (31 * S.2 83 71 + x)
def de_kp (A : cm_S) (wc : Nat) (c : Int32) : cm_S := cm_wI (cm_wI A 78 wc c) 77 1 (Int32.ofNat (wc + 1))
def me_kp (S : cm_S) (wc : Nat) (c1 c2 : Int32) : cm_S := cm_wI (cm_wI (cm_wI S 129 wc c1) 129 (wc + 1) c2) 83 68 (Int32.ofNat (wc + 2))
theorem de_pr_cf {A : cm_S} {x : Int64} : cf_W (fun b j => decide (b = 77 ∧ j = 3)) A (de_pr A x) := cf_wJ (decide_eq_true ⟨rfl, rfl⟩)
theorem me_pr_cf {S : cm_S} {x : Int64} : cf_W (fun b j => decide (b = 83 ∧ j = 71)) S (me_pr S x) := cf_wJ (decide_eq_true ⟨rfl, rfl⟩)
theorem de_pr_at {A : cm_S} {x : Int64} : (de_pr A x).2 77 3 = 31 * A.2 77 3 + x := by
  unfold de_pr
  rw [cp_wJ2, if_pos ⟨rfl, rfl⟩]
theorem me_pr_at {S : cm_S} {x : Int64} : (me_pr S x).2 83 71 = 31 * S.2 83 71 + x := by
  unfold me_pr
  rw [cp_wJ2, if_pos ⟨rfl, rfl⟩]
theorem de_kp_cf {A : cm_S} {wc : Nat} {c : Int32} : cf_W (fun b j => decide (b = 78 ∧ j = wc ∨ b = 77 ∧ j = 1)) A (de_kp A wc c) := cf_tr (cf_wI (decide_eq_true (by omega))) (cf_wI (decide_eq_true (by omega)))
theorem de_kp_at {A : cm_S} {wc : Nat} {c : Int32} : (de_kp A wc c).1 77 1 = Int32.ofNat (wc + 1) ∧ (de_kp A wc c).1 78 wc = c := by
  unfold de_kp
  exact ⟨by rw [cp_wI1, if_pos ⟨rfl, rfl⟩], by rw [cp_wI1, if_neg (by omega), cp_wI1, if_pos ⟨rfl, rfl⟩]⟩
theorem me_kp_cf {S : cm_S} {wc : Nat} {c1 c2 : Int32} : cf_W (fun b j => decide (b = 129 ∧ (j = wc ∨ j = wc + 1) ∨ b = 83 ∧ j = 68)) S (me_kp S wc c1 c2) := cf_tr (cf_wI (decide_eq_true (by omega))) (cf_tr (cf_wI (decide_eq_true (by omega))) (cf_wI (decide_eq_true (by omega))))
theorem me_kp_at {S : cm_S} {wc : Nat} {c1 c2 : Int32} : (me_kp S wc c1 c2).1 83 68 = Int32.ofNat (wc + 2) ∧ (me_kp S wc c1 c2).1 129 wc = c1 ∧ (me_kp S wc c1 c2).1 129 (wc + 1) = c2 := by
  unfold me_kp
  exact ⟨by rw [cp_wI1, if_pos ⟨rfl, rfl⟩], by rw [cp_wI1, if_neg (by omega), cp_wI1, if_neg (by omega), cp_wI1, if_pos ⟨rfl, rfl⟩], by rw [cp_wI1, if_neg (by omega), cp_wI1, if_pos ⟨rfl, rfl⟩]⟩
section CPa30
variable {L : Nat} {xs : Nat → Int32} {d : Nat} {A S : cm_S} {K : cm_K} {wc : Nat}
theorem cp_109 {x : Int64} (h : K (.inl none) (de_pr A x) 0) : cm_At (am_XX L xs) (d + 1) 109 0 [some (.ref 77), some (.long x), none] [] A K := by
  refine cx_109_0 _ ?_
  rintro _ rfl
  rintro _ rfl
  exact h
theorem cp_261 {x : Int64} (h : K (.inl none) (me_pr S x) 0) : cm_At (am_XX L xs) (d + 1) 261 0 [some (.ref 83), some (.long x), none] [] S K := by
  refine cx_261_0 _ ?_
  rintro _ rfl
  rintro _ rfl
  exact h
theorem cp_110 {x : Int32} (hw : A.1 77 1 = Int32.ofNat wc) (hw2 : wc < 42) (h : K (.inl none) (de_kp A wc x) 0) : cm_At (am_XX L xs) (d + 2) 110 0 [some (.ref 77), some (.int x)] [] A K := by
  refine cx_110_0 _ ?_
  intro x1 h1
  rw [h1, hw]
  refine cp_167 (by decide) (cp_r0 ?_)
  rw [cp_w_at (by rw [dm_rl.2.2.2.2.2.2.2.2.2.2.2.1]; omega) (by decide +kernel)]
  intro x2 h2
  rw [h2, cp_wI1, if_neg (by omega), hw, show Int32.ofNat wc + 1 = Int32.ofNat (wc + 1) from cp_ad (b := 1)]
  rintro _ rfl
  exact h
end CPa30
section DMa30
variable {A0 S0 : cm_S} {V : Nat → ct_T} {G : dm_Gs} {nc ne nv st lim wc sh dd v : Nat}
/-- what is known of the definition that is run as its value, or one behind it, is shown -/
theorem dw_root (hr : dm_rA A0 S0 dd 0 sh nc ∨ dm_r2 A0 S0 dd 0 sh nc) (hM : dm_M A0 S0 V G nc ne 0 nv) (hnv : nv < 8192) : A0.1 57 5 = Int32.ofNat dd ∧ dd < 8 ∧ (¬ A0.1 65 dd = -1 ∧ dm_dz A0 nc 0) ∧ ¬ S0.1 116 dd = -1 ∧ ((S0.1 83 44 = -1 ∧ S0.1 83 65 = S0.1 116 dd) ∨ (¬ S0.1 83 44 = -1 ∧ S0.1 83 44 = S0.1 116 dd)) := by
  rcases hr with ⟨h1, h2, h3, h4⟩ | ⟨h1, h2, h3, h4, h5, h6, h7, h8⟩
  · rcases h4 with ⟨_, _, h5, _⟩ | ⟨h5, h6, _⟩
    · omega
    · exact ⟨h1, h2, h3, by rw [← h6]; exact h5, Or.inr ⟨h5, h6⟩⟩
  · exact ⟨h1, h2, h3, h8, Or.inl ⟨h4, h7⟩⟩
/-- what holds once a value is shown -/
theorem dw_shR {A1 S1 : cm_S} {wc1 : Nat} (hM : dm_M A0 S0 V G nc ne 0 nv) (hH : dm_H A0 S0 nc st lim wc sh) (h1 : A0.1 57 5 = Int32.ofNat dd) (h2 : dd < 8) (h3 : ¬ A0.1 65 dd = -1 ∧ dm_dz A0 nc 0) (h4 : ¬ S0.1 116 dd = -1) (hA : cf_W (fun b j => decide (b = 77 ∧ (j = 1 ∨ j = 3) ∨ b = 78)) A0 A1) (hS : cf_W (fun b j => decide (b = 83 ∧ (j = 44 ∨ j = 65 ∨ j = 68 ∨ j = 71) ∨ b = 129)) S0 S1) (h44 : S1.1 83 44 = S0.1 116 dd) (k1 : A1.1 77 1 = Int32.ofNat wc1) (k2 : S1.1 83 68 = Int32.ofNat wc1) (k3 : A1.2 77 3 = S1.2 83 71) (k4 : ∀ i, i < wc1 → S1.1 129 i = dm_ce (A1.1 78 i) ∧ dm_cr nc (A1.1 78 i)) : dm_P A1 S1 V G nc ne 0 nv st lim wc1 sh dd := by
  obtain ⟨g1, g2, g3, g4, g5, g6, g7, g8, g9, g10, g11⟩ := hH
  refine ⟨dm_M_cf hA hS (fun b j hb => decide_eq_false (by omega)) (fun b j hb => decide_eq_false (by omega)) (decide_eq_false (by omega)) (decide_eq_false (by omega)) (decide_eq_false (by omega)) (decide_eq_false (by omega)) (decide_eq_false (by omega)) (decide_eq_false (by omega)) (decide_eq_false (by omega)) hM, ⟨(hA _ _ (decide_eq_false (by omega))).1.trans g1, (hS _ _ (decide_eq_false (by omega))).1.trans g2, (hA _ _ (decide_eq_false (by omega))).1.trans g3, (hS _ _ (decide_eq_false (by omega))).1.trans g4, k1, k2, (hA _ _ (decide_eq_false (by omega))).1.trans g7, (hS _ _ (decide_eq_false (by omega))).1.trans g8, k3, k4, fun i hi => ?_⟩, (hA _ _ (decide_eq_false (by omega))).1.trans h1, h2, ?_, Or.inr ⟨by rw [h44]; exact h4, ?_, fun i hi => absurd hi (Nat.not_lt_zero i)⟩⟩
  · rw [(hA 79 i (decide_eq_false (by omega))).1, (hS 128 i (decide_eq_false (by omega))).1]; exact g11 i hi
  · refine ⟨by rw [(hA 65 dd (decide_eq_false (by omega))).1]; exact h3.1, fun m2 hm2 hm3 hb => ?_⟩
    rw [(hA 65 m2 (decide_eq_false (by omega))).1] at hb
    obtain ⟨i, i1, _⟩ := h3.2 m2 hm2 hm3 hb
    omega
  · rw [h44, (hS 116 dd (decide_eq_false (by omega))).1]
/-- the value found is added to what is shown: the class -/
theorem dw_sw (hM : dm_M A0 S0 V G nc ne 0 nv) (hH : dm_H A0 S0 nc st lim wc sh) (hnc : nc ≤ 8009) (hnv : nv < 8192) (hwc : wc ≤ 20) (h1 : A0.1 57 5 = Int32.ofNat dd) (h2 : dd < 8) (h3 : ¬ A0.1 65 dd = -1 ∧ dm_dz A0 nc 0) (h4 : ¬ S0.1 116 dd = -1) (hroot : (S0.1 83 44 = -1 ∧ S0.1 83 65 = S0.1 116 dd) ∨ (¬ S0.1 83 44 = -1 ∧ S0.1 83 44 = S0.1 116 dd)) (hvn : v < nv) (hgv : S0.1 83 65 = Int32.ofNat v) (hvl : dm_vl A0 S0 V G ne nc (A0.1 65 8) (A0.1 66 8) (A0.1 67 8) (A0.2 68 8) v) : ∃ A1 S1 wc1, (∀ (L : Nat) (xs : Nat → Int32) (d : Nat) (K : cm_K), K (.inl none) A1 0 → cm_At (am_XX L xs) (d + 4) 108 0 [some (.ref 77), some (.ref 64), none] [] A0 K) ∧ (∀ (L : Nat) (xs : Nat → Int32) (d : Nat) (K : cm_K), (∀ o1, cm_At (am_XX L xs) (d + 3) 262 176 [some (.ref 83), o1] [] S1 K) → cm_At (am_XX L xs) (d + 3) 262 0 [some (.ref 83), none] [] S0 K) ∧ cf_W (fun b j => decide (b = 77 ∧ (j = 1 ∨ j = 3) ∨ b = 78)) A0 A1 ∧ cf_W (fun b j => decide (b = 83 ∧ (j = 44 ∨ j = 65 ∨ j = 68 ∨ j = 71) ∨ b = 129)) S0 S1 ∧ wc1 ≤ wc + 2 ∧ S1.1 83 65 = -1 ∧ dm_P A1 S1 V G nc ne 0 nv st lim wc1 sh dd := by
  obtain ⟨g1, g2, g3, g4, g5, g6, g7, g8, g9, g10, g11⟩ := id hH
  have h9 := hM.2.1
  obtain ⟨R, hR⟩ : ∃ R, R = cm_wI S0 83 44 (S0.1 116 dd) := ⟨_, rfl⟩
  have fR : cf_W (fun b j => decide (b = 83 ∧ j = 44)) S0 R := by rw [hR]; exact cf_wI (decide_eq_true ⟨rfl, rfl⟩)
  have e65 : R.1 83 65 = Int32.ofNat v := (fR 83 65 (decide_eq_false (by omega))).1.trans hgv
  have e44 : R.1 83 44 = S0.1 116 dd := by rw [hR, cp_wI1, if_pos ⟨rfl, rfl⟩]
  have e68 : R.1 83 68 = Int32.ofNat wc := (fR 83 68 (decide_eq_false (by omega))).1.trans g6
  have e71 : R.2 83 71 = A0.2 77 3 := (fR 83 71 (decide_eq_false (by omega))).2.trans g9.symm
  have e12 : ∀ b, 121 ≤ b → b ≤ 129 → ∀ i, R.1 b i = S0.1 b i ∧ R.2 b i = S0.2 b i := fun b q1 q2 i => fR b i (decide_eq_false (by omega))
  have hnm1 : ¬ S0.1 83 65 = -1 := by rw [hgv]; exact cp_m1 (by omega)
  rcases hvl with ⟨hkd, htg, hnum⟩ | ⟨hkd, htg, _⟩ | ⟨hkd, htg, hnum⟩ | ⟨hkd, htg, hnum, hv3, hv4, hr1, hr2⟩
  · have kA : ∀ (L : Nat) (xs : Nat → Int32) (d : Nat) (K : cm_K), K (.inl none) (de_pr (de_pr A0 1) (A0.2 68 8)) 0 → cm_At (am_XX L xs) (d + 4) 108 0 [some (.ref 77), some (.ref 64), none] [] A0 K := by
      intro L xs d K k
      refine cx_108_0 ?_
      refine cp_116 (m := 8) hM.2.2.1 hnc (by omega) (cp_r1 ?_)
      rw [hkd]
      refine ⟨fun _ => ?_, fun hc => absurd (by decide) hc⟩
      refine cp_109 (cp_r0 ?_)
      refine cp_119 (m := 8) (by omega) (cp_r2 ?_)
      rw [(de_pr_cf 68 8 (decide_eq_false (by omega))).2]
      exact cp_109 (cp_r0 k)
    have kS : ∀ (L : Nat) (xs : Nat → Int32) (d : Nat) (K : cm_K), (∀ o1, cm_At (am_XX L xs) (d + 3) 262 176 [some (.ref 83), o1] [] (cm_wI (me_pr (me_pr R 1) (A0.2 68 8)) 83 65 (-1)) K) → cm_At (am_XX L xs) (d + 3) 262 0 [some (.ref 83), none] [] S0 K := by
      intro L xs d K k
      refine cx_262_0 ?_
      intro x1 h1
      rw [h1]
      refine ⟨fun hc => absurd hc hnm1, fun _ => ?_⟩
      intro x2 h2
      rw [h2]
      rcases hroot with ⟨r1, r2⟩ | ⟨r1, r2⟩
      · refine ⟨fun _ => ?_, fun hc => absurd r1 hc⟩
        intro x3 h3
        rw [h3, r2, ← hR]
        intro S2 h4
        rw [h4]
        intro x5 h5
        rw [h5, e65]
        refine ⟨cp_in (by omega) (by decide), ?_⟩
        rw [cp_cl (n := v) (by omega)]
        intro x6 h6
        rw [h6, (e12 121 (by omega) (by omega) v).1, htg]
        refine ⟨fun _ => ?_, fun hc => absurd rfl hc⟩
        refine cp_261 (cp_r0 ?_)
        refine ⟨fun _ => ?_, fun hc => absurd rfl hc⟩
        intro x7 h7
        rw [h7, (me_pr_cf 83 65 (decide_eq_false (by omega))).1, e65]
        refine ⟨cp_in (by omega) (by decide), ?_⟩
        rw [cp_cl (n := v) (by omega)]
        intro x8 h8
        rw [h8, (me_pr_cf 122 v (decide_eq_false (by omega))).2, (e12 122 (by omega) (by omega) v).2, hnum]
        refine cp_261 (cp_r0 ?_)
        simp only [dk_sh0]
        refine cx_262_104 _ ⟨fun hc => absurd hc (by decide), fun _ => ?_⟩
        refine cx_262_171 _ ?_
        intro S9 h9
        rw [h9]
        exact k _
      · refine ⟨fun hc => absurd hc r1, fun _ => ?_⟩
        intro x3 h3
        rw [h3, r2, ← hR]
        intro S2 h4
        rw [h4]
        intro x5 h5
        rw [h5, e65]
        refine ⟨cp_in (by omega) (by decide), ?_⟩
        rw [cp_cl (n := v) (by omega)]
        intro x6 h6
        rw [h6, (e12 121 (by omega) (by omega) v).1, htg]
        refine ⟨fun _ => ?_, fun hc => absurd rfl hc⟩
        refine cp_261 (cp_r0 ?_)
        refine ⟨fun _ => ?_, fun hc => absurd rfl hc⟩
        intro x7 h7
        rw [h7, (me_pr_cf 83 65 (decide_eq_false (by omega))).1, e65]
        refine ⟨cp_in (by omega) (by decide), ?_⟩
        rw [cp_cl (n := v) (by omega)]
        intro x8 h8
        rw [h8, (me_pr_cf 122 v (decide_eq_false (by omega))).2, (e12 122 (by omega) (by omega) v).2, hnum]
        refine cp_261 (cp_r0 ?_)
        simp only [dk_sh0]
        refine cx_262_104 _ ⟨fun hc => absurd hc (by decide), fun _ => ?_⟩
        refine cx_262_171 _ ?_
        intro S9 h9
        rw [h9]
        exact k _
    have fA : cf_W (fun b j => decide (b = 77 ∧ (j = 1 ∨ j = 3) ∨ b = 78)) A0 (de_pr (de_pr A0 1) (A0.2 68 8)) := cf_tr (cf_mono de_pr_cf (fun b j h => decide_eq_true (by have h := of_decide_eq_true h; omega))) (cf_mono de_pr_cf (fun b j h => decide_eq_true (by have h := of_decide_eq_true h; omega)))
    have fS : cf_W (fun b j => decide (b = 83 ∧ (j = 44 ∨ j = 65 ∨ j = 68 ∨ j = 71) ∨ b = 129)) S0 (cm_wI (me_pr (me_pr R 1) (A0.2 68 8)) 83 65 (-1)) := cf_tr (cf_mono fR (fun b j h => decide_eq_true (by have h := of_decide_eq_true h; omega))) (cf_tr (cf_mono me_pr_cf (fun b j h => decide_eq_true (by have h := of_decide_eq_true h; omega))) (cf_tr (cf_mono me_pr_cf (fun b j h => decide_eq_true (by have h := of_decide_eq_true h; omega))) (cf_wI (decide_eq_true (by omega)))))
    exact ⟨_, _, wc, kA, kS, fA, fS, by omega, by rw [cp_wI1, if_pos ⟨rfl, rfl⟩], dw_shR hM hH h1 h2 h3 h4 fA fS (by rw [cp_wI1, if_neg (by omega), (me_pr_cf 83 44 (decide_eq_false (by omega))).1, (me_pr_cf 83 44 (decide_eq_false (by omega))).1, e44]) (by rw [(de_pr_cf 77 1 (decide_eq_false (by omega))).1, (de_pr_cf 77 1 (decide_eq_false (by omega))).1]; exact g5) (by rw [cp_wI1, if_neg (by omega), (me_pr_cf 83 68 (decide_eq_false (by omega))).1, (me_pr_cf 83 68 (decide_eq_false (by omega))).1, e68]) (by rw [cp_wI2, de_pr_at, de_pr_at, me_pr_at, me_pr_at, e71]) (fun i hi => by
      rw [cp_wI1, if_neg (by omega), (me_pr_cf 129 i (decide_eq_false (by omega))).1, (me_pr_cf 129 i (decide_eq_false (by omega))).1, (e12 129 (by omega) (by omega) i).1, (de_pr_cf 78 i (decide_eq_false (by omega))).1, (de_pr_cf 78 i (decide_eq_false (by omega))).1]; exact g10 i hi)⟩
  · have kA : ∀ (L : Nat) (xs : Nat → Int32) (d : Nat) (K : cm_K), K (.inl none) (de_pr A0 2) 0 → cm_At (am_XX L xs) (d + 4) 108 0 [some (.ref 77), some (.ref 64), none] [] A0 K := by
      intro L xs d K k
      refine cx_108_0 ?_
      refine cp_116 (m := 8) hM.2.2.1 hnc (by omega) (cp_r1 ?_)
      rw [hkd]
      refine ⟨fun hc => absurd hc (by decide), fun _ => ⟨fun _ => ?_, fun hc => absurd (by decide) hc⟩⟩
      exact cp_109 (cp_r0 k)
    have kS : ∀ (L : Nat) (xs : Nat → Int32) (d : Nat) (K : cm_K), (∀ o1, cm_At (am_XX L xs) (d + 3) 262 176 [some (.ref 83), o1] [] (cm_wI (me_pr R 2) 83 65 (-1)) K) → cm_At (am_XX L xs) (d + 3) 262 0 [some (.ref 83), none] [] S0 K := by
      intro L xs d K k
      refine cx_262_0 ?_
      intro x1 h1
      rw [h1]
      refine ⟨fun hc => absurd hc hnm1, fun _ => ?_⟩
      intro x2 h2
      rw [h2]
      rcases hroot with ⟨r1, r2⟩ | ⟨r1, r2⟩
      · refine ⟨fun _ => ?_, fun hc => absurd r1 hc⟩
        intro x3 h3
        rw [h3, r2, ← hR]
        intro S2 h4
        rw [h4]
        intro x5 h5
        rw [h5, e65]
        refine ⟨cp_in (by omega) (by decide), ?_⟩
        rw [cp_cl (n := v) (by omega)]
        intro x6 h6
        rw [h6, (e12 121 (by omega) (by omega) v).1, htg]
        refine ⟨fun hc => absurd hc (by decide), fun _ => ⟨fun _ => ?_, fun hc => absurd rfl hc⟩⟩
        refine cp_261 (cp_r0 ?_)
        refine ⟨fun hc => absurd hc (by decide), fun _ => ?_⟩
        simp only [dk_sh0]
        refine cx_262_104 _ ⟨fun hc => absurd hc (by decide), fun _ => ?_⟩
        refine cx_262_171 _ ?_
        intro S9 h9
        rw [h9]
        exact k _
      · refine ⟨fun hc => absurd hc r1, fun _ => ?_⟩
        intro x3 h3
        rw [h3, r2, ← hR]
        intro S2 h4
        rw [h4]
        intro x5 h5
        rw [h5, e65]
        refine ⟨cp_in (by omega) (by decide), ?_⟩
        rw [cp_cl (n := v) (by omega)]
        intro x6 h6
        rw [h6, (e12 121 (by omega) (by omega) v).1, htg]
        refine ⟨fun hc => absurd hc (by decide), fun _ => ⟨fun _ => ?_, fun hc => absurd rfl hc⟩⟩
        refine cp_261 (cp_r0 ?_)
        refine ⟨fun hc => absurd hc (by decide), fun _ => ?_⟩
        simp only [dk_sh0]
        refine cx_262_104 _ ⟨fun hc => absurd hc (by decide), fun _ => ?_⟩
        refine cx_262_171 _ ?_
        intro S9 h9
        rw [h9]
        exact k _
    have fA : cf_W (fun b j => decide (b = 77 ∧ (j = 1 ∨ j = 3) ∨ b = 78)) A0 (de_pr A0 2) := cf_mono de_pr_cf (fun b j h => decide_eq_true (by have h := of_decide_eq_true h; omega))
    have fS : cf_W (fun b j => decide (b = 83 ∧ (j = 44 ∨ j = 65 ∨ j = 68 ∨ j = 71) ∨ b = 129)) S0 (cm_wI (me_pr R 2) 83 65 (-1)) := cf_tr (cf_mono fR (fun b j h => decide_eq_true (by have h := of_decide_eq_true h; omega))) (cf_tr (cf_mono me_pr_cf (fun b j h => decide_eq_true (by have h := of_decide_eq_true h; omega))) (cf_wI (decide_eq_true (by omega))))
    exact ⟨_, _, wc, kA, kS, fA, fS, by omega, by rw [cp_wI1, if_pos ⟨rfl, rfl⟩], dw_shR hM hH h1 h2 h3 h4 fA fS (by rw [cp_wI1, if_neg (by omega), (me_pr_cf 83 44 (decide_eq_false (by omega))).1, e44]) (by rw [(de_pr_cf 77 1 (decide_eq_false (by omega))).1]; exact g5) (by rw [cp_wI1, if_neg (by omega), (me_pr_cf 83 68 (decide_eq_false (by omega))).1, e68]) (by rw [cp_wI2, de_pr_at, me_pr_at, e71]) (fun i hi => by
      rw [cp_wI1, if_neg (by omega), (me_pr_cf 129 i (decide_eq_false (by omega))).1, (e12 129 (by omega) (by omega) i).1, (de_pr_cf 78 i (decide_eq_false (by omega))).1]; exact g10 i hi)⟩
  · have kA : ∀ (L : Nat) (xs : Nat → Int32) (d : Nat) (K : cm_K), K (.inl none) (de_pr A0 3) 0 → cm_At (am_XX L xs) (d + 4) 108 0 [some (.ref 77), some (.ref 64), none] [] A0 K := by
      intro L xs d K k
      refine cx_108_0 ?_
      refine cp_116 (m := 8) hM.2.2.1 hnc (by omega) (cp_r1 ?_)
      rw [hkd]
      refine ⟨fun hc => absurd hc (by decide), fun _ => ⟨fun hc => absurd hc (by decide), fun _ => ⟨fun _ => ?_, fun hc => absurd (by decide) hc⟩⟩⟩
      exact cp_109 (cp_r0 k)
    have kS : ∀ (L : Nat) (xs : Nat → Int32) (d : Nat) (K : cm_K), (∀ o1, cm_At (am_XX L xs) (d + 3) 262 176 [some (.ref 83), o1] [] (cm_wI (me_pr R 3) 83 65 (-1)) K) → cm_At (am_XX L xs) (d + 3) 262 0 [some (.ref 83), none] [] S0 K := by
      intro L xs d K k
      refine cx_262_0 ?_
      intro x1 h1
      rw [h1]
      refine ⟨fun hc => absurd hc hnm1, fun _ => ?_⟩
      intro x2 h2
      rw [h2]
      rcases hroot with ⟨r1, r2⟩ | ⟨r1, r2⟩
      · refine ⟨fun _ => ?_, fun hc => absurd r1 hc⟩
        intro x3 h3
        rw [h3, r2, ← hR]
        intro S2 h4
        rw [h4]
        intro x5 h5
        rw [h5, e65]
        refine ⟨cp_in (by omega) (by decide), ?_⟩
        rw [cp_cl (n := v) (by omega)]
        intro x6 h6
        rw [h6, (e12 121 (by omega) (by omega) v).1, htg]
        refine ⟨fun hc => absurd hc (by decide), fun _ => ⟨fun hc => absurd hc (by decide), fun _ => ?_⟩⟩
        intro x7 h7
        rw [h7]
        refine ⟨cp_in (by omega) (by decide), ?_⟩
        rw [cp_cl (n := v) (by omega)]
        intro x8 h8
        rw [h8, (e12 122 (by omega) (by omega) v).2, hnum]
        refine ⟨fun _ => ?_, fun hc => absurd (cu_lg.mpr rfl) hc⟩
        refine cp_261 (cp_r0 ?_)
        refine ⟨fun hc => absurd hc (by decide), fun _ => ?_⟩
        simp only [dk_sh0]
        refine cx_262_104 _ ⟨fun _ => ?_, fun hc => absurd rfl hc⟩
        intro x9 h9
        rw [h9, (me_pr_cf 83 65 (decide_eq_false (by omega))).1, e65]
        refine ⟨cp_in (by omega) (by decide), ?_⟩
        rw [cp_cl (n := v) (by omega)]
        intro x10 h10
        rw [h10, (me_pr_cf 122 v (decide_eq_false (by omega))).2, (e12 122 (by omega) (by omega) v).2, hnum]
        refine ⟨fun _ => ?_, fun hc => absurd (cu_lg.mpr rfl) hc⟩
        refine cx_262_171 _ ?_
        intro S9 h11
        rw [h11]
        exact k _
      · refine ⟨fun hc => absurd hc r1, fun _ => ?_⟩
        intro x3 h3
        rw [h3, r2, ← hR]
        intro S2 h4
        rw [h4]
        intro x5 h5
        rw [h5, e65]
        refine ⟨cp_in (by omega) (by decide), ?_⟩
        rw [cp_cl (n := v) (by omega)]
        intro x6 h6
        rw [h6, (e12 121 (by omega) (by omega) v).1, htg]
        refine ⟨fun hc => absurd hc (by decide), fun _ => ⟨fun hc => absurd hc (by decide), fun _ => ?_⟩⟩
        intro x7 h7
        rw [h7]
        refine ⟨cp_in (by omega) (by decide), ?_⟩
        rw [cp_cl (n := v) (by omega)]
        intro x8 h8
        rw [h8, (e12 122 (by omega) (by omega) v).2, hnum]
        refine ⟨fun _ => ?_, fun hc => absurd (cu_lg.mpr rfl) hc⟩
        refine cp_261 (cp_r0 ?_)
        refine ⟨fun hc => absurd hc (by decide), fun _ => ?_⟩
        simp only [dk_sh0]
        refine cx_262_104 _ ⟨fun _ => ?_, fun hc => absurd rfl hc⟩
        intro x9 h9
        rw [h9, (me_pr_cf 83 65 (decide_eq_false (by omega))).1, e65]
        refine ⟨cp_in (by omega) (by decide), ?_⟩
        rw [cp_cl (n := v) (by omega)]
        intro x10 h10
        rw [h10, (me_pr_cf 122 v (decide_eq_false (by omega))).2, (e12 122 (by omega) (by omega) v).2, hnum]
        refine ⟨fun _ => ?_, fun hc => absurd (cu_lg.mpr rfl) hc⟩
        refine cx_262_171 _ ?_
        intro S9 h11
        rw [h11]
        exact k _
    have fA : cf_W (fun b j => decide (b = 77 ∧ (j = 1 ∨ j = 3) ∨ b = 78)) A0 (de_pr A0 3) := cf_mono de_pr_cf (fun b j h => decide_eq_true (by have h := of_decide_eq_true h; omega))
    have fS : cf_W (fun b j => decide (b = 83 ∧ (j = 44 ∨ j = 65 ∨ j = 68 ∨ j = 71) ∨ b = 129)) S0 (cm_wI (me_pr R 3) 83 65 (-1)) := cf_tr (cf_mono fR (fun b j h => decide_eq_true (by have h := of_decide_eq_true h; omega))) (cf_tr (cf_mono me_pr_cf (fun b j h => decide_eq_true (by have h := of_decide_eq_true h; omega))) (cf_wI (decide_eq_true (by omega))))
    exact ⟨_, _, wc, kA, kS, fA, fS, by omega, by rw [cp_wI1, if_pos ⟨rfl, rfl⟩], dw_shR hM hH h1 h2 h3 h4 fA fS (by rw [cp_wI1, if_neg (by omega), (me_pr_cf 83 44 (decide_eq_false (by omega))).1, e44]) (by rw [(de_pr_cf 77 1 (decide_eq_false (by omega))).1]; exact g5) (by rw [cp_wI1, if_neg (by omega), (me_pr_cf 83 68 (decide_eq_false (by omega))).1, e68]) (by rw [cp_wI2, de_pr_at, me_pr_at, e71]) (fun i hi => by
      rw [cp_wI1, if_neg (by omega), (me_pr_cf 129 i (decide_eq_false (by omega))).1, (e12 129 (by omega) (by omega) i).1, (de_pr_cf 78 i (decide_eq_false (by omega))).1]; exact g10 i hi)⟩
  · have kA : ∀ (L : Nat) (xs : Nat → Int32) (d : Nat) (K : cm_K), K (.inl none) (de_kp (de_kp (de_pr A0 4) wc (A0.1 67 8)) (wc + 1) (A0.1 66 8)) 0 → cm_At (am_XX L xs) (d + 4) 108 0 [some (.ref 77), some (.ref 64), none] [] A0 K := by
      intro L xs d K k
      refine cx_108_0 ?_
      refine cp_116 (m := 8) hM.2.2.1 hnc (by omega) (cp_r1 ?_)
      rw [hkd]
      refine ⟨fun hc => absurd hc (by decide), fun _ => ⟨fun hc => absurd hc (by decide), fun _ => ⟨fun hc => absurd hc (by decide), fun _ => ?_⟩⟩⟩
      refine cp_109 (cp_r0 ?_)
      refine cp_118 (m := 8) (by omega) (cp_r1 ?_)
      rw [(de_pr_cf 67 8 (decide_eq_false (by omega))).1]
      refine cp_110 (wc := wc) ((de_pr_cf 77 1 (decide_eq_false (by omega))).1.trans g5) (by omega) (cp_r0 ?_)
      refine cp_117 (m := 8) (by omega) (cp_r1 ?_)
      rw [(de_kp_cf 66 8 (decide_eq_false (by omega))).1, (de_pr_cf 66 8 (decide_eq_false (by omega))).1]
      refine cp_110 (wc := wc + 1) de_kp_at.1 (by omega) (cp_r0 ?_)
      exact k
    have kS : ∀ (L : Nat) (xs : Nat → Int32) (d : Nat) (K : cm_K), (∀ o1, cm_At (am_XX L xs) (d + 3) 262 176 [some (.ref 83), o1] [] (cm_wI (me_kp (me_pr R 4) wc (dm_ce (A0.1 67 8)) (dm_ce (A0.1 66 8))) 83 65 (-1)) K) → cm_At (am_XX L xs) (d + 3) 262 0 [some (.ref 83), none] [] S0 K := by
      intro L xs d K k
      refine cx_262_0 ?_
      intro x1 h1
      rw [h1]
      refine ⟨fun hc => absurd hc hnm1, fun _ => ?_⟩
      intro x2 h2
      rw [h2]
      rcases hroot with ⟨r1, r2⟩ | ⟨r1, r2⟩
      · refine ⟨fun _ => ?_, fun hc => absurd r1 hc⟩
        intro x3 h3
        rw [h3, r2, ← hR]
        intro S2 h4
        rw [h4]
        intro x5 h5
        rw [h5, e65]
        refine ⟨cp_in (by omega) (by decide), ?_⟩
        rw [cp_cl (n := v) (by omega)]
        intro x6 h6
        rw [h6, (e12 121 (by omega) (by omega) v).1, htg]
        refine ⟨fun hc => absurd hc (by decide), fun _ => ⟨fun hc => absurd hc (by decide), fun _ => ?_⟩⟩
        intro x7 h7
        rw [h7]
        refine ⟨cp_in (by omega) (by decide), ?_⟩
        rw [cp_cl (n := v) (by omega)]
        intro x8 h8
        rw [h8, (e12 122 (by omega) (by omega) v).2, hnum]
        refine ⟨fun hc => absurd (cu_lg.mp hc) (by decide), fun _ => ?_⟩
        refine cp_261 (cp_r0 ?_)
        refine ⟨fun hc => absurd hc (by decide), fun _ => ?_⟩
        simp only [dk_sh0]
        refine cx_262_104 _ ⟨fun _ => ?_, fun hc => absurd rfl hc⟩
        intro x9 h9
        rw [h9, (me_pr_cf 83 65 (decide_eq_false (by omega))).1, e65]
        refine ⟨cp_in (by omega) (by decide), ?_⟩
        rw [cp_cl (n := v) (by omega)]
        intro x10 h10
        rw [h10, (me_pr_cf 122 v (decide_eq_false (by omega))).2, (e12 122 (by omega) (by omega) v).2, hnum]
        refine ⟨fun hc => absurd (cu_lg.mp hc) (by decide), fun _ => ?_⟩
        intro x11 h11
        intro x12 h12
        rw [h11, h12, (me_pr_cf 83 68 (decide_eq_false (by omega))).1, e68]
        refine ⟨cp_in (by omega) (by decide), ?_⟩
        rw [cp_cl (n := v) (by omega)]
        intro x13 h13
        rw [h13, (me_pr_cf 124 v (decide_eq_false (by omega))).1, (e12 124 (by omega) (by omega) v).1, hv4]
        refine ⟨cp_in (by omega) (by decide), ?_⟩
        rw [cp_cl (n := wc) (by omega)]
        intro S3 h14
        rw [h14]
        intro x15 h15
        intro x16 h16
        have b15 : x15 = Int32.ofNat wc := by rw [h15, cp_wI1, if_neg (by omega), (me_pr_cf 83 68 (decide_eq_false (by omega))).1, e68]
        have b16 : x16 = Int32.ofNat v := by rw [h16, cp_wI1, if_neg (by omega), (me_pr_cf 83 65 (decide_eq_false (by omega))).1, e65]
        rw [b15, b16, show Int32.ofNat wc + 1 = Int32.ofNat (wc + 1) from cp_ad (b := 1)]
        refine ⟨cp_in (by omega) (by decide), ?_⟩
        rw [cp_cl (n := v) (by omega)]
        intro x17 h17
        rw [h17, cp_wI1, if_neg (by omega), (me_pr_cf 123 v (decide_eq_false (by omega))).1, (e12 123 (by omega) (by omega) v).1, hv3]
        refine ⟨cp_in (by omega) (by decide), ?_⟩
        rw [cp_cl (n := wc + 1) (by omega)]
        intro S4 h18
        rw [h18]
        intro x19 h19
        rw [h19, cp_wI1, if_neg (by omega), cp_wI1, if_neg (by omega), (me_pr_cf 83 68 (decide_eq_false (by omega))).1, e68, show Int32.ofNat wc + 2 = Int32.ofNat (wc + 2) from cp_ad (b := 2)]
        intro S5 h20
        rw [h20]
        refine cx_262_171 _ ?_
        intro S9 h21
        rw [h21]
        exact k _
      · refine ⟨fun hc => absurd hc r1, fun _ => ?_⟩
        intro x3 h3
        rw [h3, r2, ← hR]
        intro S2 h4
        rw [h4]
        intro x5 h5
        rw [h5, e65]
        refine ⟨cp_in (by omega) (by decide), ?_⟩
        rw [cp_cl (n := v) (by omega)]
        intro x6 h6
        rw [h6, (e12 121 (by omega) (by omega) v).1, htg]
        refine ⟨fun hc => absurd hc (by decide), fun _ => ⟨fun hc => absurd hc (by decide), fun _ => ?_⟩⟩
        intro x7 h7
        rw [h7]
        refine ⟨cp_in (by omega) (by decide), ?_⟩
        rw [cp_cl (n := v) (by omega)]
        intro x8 h8
        rw [h8, (e12 122 (by omega) (by omega) v).2, hnum]
        refine ⟨fun hc => absurd (cu_lg.mp hc) (by decide), fun _ => ?_⟩
        refine cp_261 (cp_r0 ?_)
        refine ⟨fun hc => absurd hc (by decide), fun _ => ?_⟩
        simp only [dk_sh0]
        refine cx_262_104 _ ⟨fun _ => ?_, fun hc => absurd rfl hc⟩
        intro x9 h9
        rw [h9, (me_pr_cf 83 65 (decide_eq_false (by omega))).1, e65]
        refine ⟨cp_in (by omega) (by decide), ?_⟩
        rw [cp_cl (n := v) (by omega)]
        intro x10 h10
        rw [h10, (me_pr_cf 122 v (decide_eq_false (by omega))).2, (e12 122 (by omega) (by omega) v).2, hnum]
        refine ⟨fun hc => absurd (cu_lg.mp hc) (by decide), fun _ => ?_⟩
        intro x11 h11
        intro x12 h12
        rw [h11, h12, (me_pr_cf 83 68 (decide_eq_false (by omega))).1, e68]
        refine ⟨cp_in (by omega) (by decide), ?_⟩
        rw [cp_cl (n := v) (by omega)]
        intro x13 h13
        rw [h13, (me_pr_cf 124 v (decide_eq_false (by omega))).1, (e12 124 (by omega) (by omega) v).1, hv4]
        refine ⟨cp_in (by omega) (by decide), ?_⟩
        rw [cp_cl (n := wc) (by omega)]
        intro S3 h14
        rw [h14]
        intro x15 h15
        intro x16 h16
        have b15 : x15 = Int32.ofNat wc := by rw [h15, cp_wI1, if_neg (by omega), (me_pr_cf 83 68 (decide_eq_false (by omega))).1, e68]
        have b16 : x16 = Int32.ofNat v := by rw [h16, cp_wI1, if_neg (by omega), (me_pr_cf 83 65 (decide_eq_false (by omega))).1, e65]
        rw [b15, b16, show Int32.ofNat wc + 1 = Int32.ofNat (wc + 1) from cp_ad (b := 1)]
        refine ⟨cp_in (by omega) (by decide), ?_⟩
        rw [cp_cl (n := v) (by omega)]
        intro x17 h17
        rw [h17, cp_wI1, if_neg (by omega), (me_pr_cf 123 v (decide_eq_false (by omega))).1, (e12 123 (by omega) (by omega) v).1, hv3]
        refine ⟨cp_in (by omega) (by decide), ?_⟩
        rw [cp_cl (n := wc + 1) (by omega)]
        intro S4 h18
        rw [h18]
        intro x19 h19
        rw [h19, cp_wI1, if_neg (by omega), cp_wI1, if_neg (by omega), (me_pr_cf 83 68 (decide_eq_false (by omega))).1, e68, show Int32.ofNat wc + 2 = Int32.ofNat (wc + 2) from cp_ad (b := 2)]
        intro S5 h20
        rw [h20]
        refine cx_262_171 _ ?_
        intro S9 h21
        rw [h21]
        exact k _
    have fA : cf_W (fun b j => decide (b = 77 ∧ (j = 1 ∨ j = 3) ∨ b = 78)) A0 (de_kp (de_kp (de_pr A0 4) wc (A0.1 67 8)) (wc + 1) (A0.1 66 8)) := cf_tr (cf_mono de_pr_cf (fun b j h => decide_eq_true (by have h := of_decide_eq_true h; omega))) (cf_tr (cf_mono de_kp_cf (fun b j h => decide_eq_true (by have h := of_decide_eq_true h; omega))) (cf_mono de_kp_cf (fun b j h => decide_eq_true (by have h := of_decide_eq_true h; omega))))
    have fS : cf_W (fun b j => decide (b = 83 ∧ (j = 44 ∨ j = 65 ∨ j = 68 ∨ j = 71) ∨ b = 129)) S0 (cm_wI (me_kp (me_pr R 4) wc (dm_ce (A0.1 67 8)) (dm_ce (A0.1 66 8))) 83 65 (-1)) := cf_tr (cf_mono fR (fun b j h => decide_eq_true (by have h := of_decide_eq_true h; omega))) (cf_tr (cf_mono me_pr_cf (fun b j h => decide_eq_true (by have h := of_decide_eq_true h; omega))) (cf_tr (cf_mono me_kp_cf (fun b j h => decide_eq_true (by have h := of_decide_eq_true h; omega))) (cf_wI (decide_eq_true (by omega)))))
    obtain ⟨m1, m2, m3⟩ := me_kp_at (S := me_pr R 4) (wc := wc) (c1 := dm_ce (A0.1 67 8)) (c2 := dm_ce (A0.1 66 8))
    obtain ⟨n1, n2⟩ := de_kp_at (A := de_kp (de_pr A0 4) wc (A0.1 67 8)) (wc := wc + 1) (c := A0.1 66 8)
    obtain ⟨n3, n4⟩ := de_kp_at (A := de_pr A0 4) (wc := wc) (c := A0.1 67 8)
    refine ⟨_, _, wc + 2, kA, kS, fA, fS, by omega, by rw [cp_wI1, if_pos ⟨rfl, rfl⟩], dw_shR hM hH h1 h2 h3 h4 fA fS (by rw [cp_wI1, if_neg (by omega), (me_kp_cf 83 44 (decide_eq_false (by omega))).1, (me_pr_cf 83 44 (decide_eq_false (by omega))).1, e44]) n1 (by rw [cp_wI1, if_neg (by omega)]; exact m1) (by rw [cp_wI2, (de_kp_cf 77 3 (decide_eq_false (by omega))).2, (de_kp_cf 77 3 (decide_eq_false (by omega))).2, de_pr_at, (me_kp_cf 83 71 (decide_eq_false (by omega))).2, me_pr_at, e71]) (fun i hi => ?_)⟩
    rw [cp_wI1, if_neg (by omega)]
    by_cases i1 : i = wc + 1
    · rw [i1, m3, n2]; exact ⟨rfl, hr1⟩
    by_cases i2 : i = wc
    · rw [i2, m2, (de_kp_cf 78 wc (decide_eq_false (by omega))).1, n4]; exact ⟨rfl, hr2⟩
    rw [(me_kp_cf 129 i (decide_eq_false (by omega))).1, (me_pr_cf 129 i (decide_eq_false (by omega))).1, (e12 129 (by omega) (by omega) i).1, (de_kp_cf 78 i (decide_eq_false (by omega))).1, (de_kp_cf 78 i (decide_eq_false (by omega))).1, (de_pr_cf 78 i (decide_eq_false (by omega))).1]
    exact g10 i (by omega)
end DMa30
