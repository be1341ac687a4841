/-! ## 71 the law's case of entered -/
def cr_en (S : cm_S) : Prop := ∀ j, j < 6 → S.1 79 j = if S.1 83 41 = 0 then 0 else S.1 128 j
section CP71
variable {L : Nat} {xs : Nat → Int32} {d n : Nat} {S : cm_S} {K : cm_K} {o5 o6 : Option Value}
theorem cr_entered (h : cr_en S) (hL : n + 5 ≤ L) (hL2 : L < 2147483648) (k : ∀ S2 e q5 q6, e ≤ 1 → cf_W (fun b j => decide (b = 132 ∨ b = 83 ∧ j = 75)) S S2 → cm_At (am_XX L xs) (d + 4) 300 1907 [some (.ref 1000000), some (.ref 0), some (.ref 83), some (.ref 132), some (.int (Int32.ofNat n)), some (.int q5), some (.int q6), none] [] S2 (cm_sh K e)) :
    cm_At (am_XX L xs) (d + 4) 300 1807 [some (.ref 1000000), some (.ref 0), some (.ref 83), some (.ref 132), some (.int (Int32.ofNat n)), o5, o6, none] [] S K := by
  refine cx_300_1807 _ _ _ ?_
  refine ⟨cr_in (j := 1) (by omega) hL2, ?_⟩
  rintro _ rfl
  generalize xs (Int32.ofNat n + 1).toNatClampNeg = p
  refine cx_298_0 _ ?_
  refine cx_155_0 _ ?_
  refine cp_161k (d := d) (b := 6) rfl (fun h6 => cp_r0 ?_) (fun h6 => cp_x0 ?_)
  · obtain ⟨j, rfl, hj, hj2⟩ := cp_of h6.1
    have hj6 : j < 6 := by omega
    refine cp_166 (by decide) (cp_r1 ?_)
    rw [cp_g_at (show j < cm_rl 79 from hj6) (by decide +kernel)]
    try dsimp only [cm_sh]
    refine cp_r1 ⟨cp_in (i := 0) (by decide) (by decide), ?_⟩
    rintro _ rfl
    try dsimp only [cm_sh]
    refine cp_r1 ⟨cr_in (j := 1) (by omega) hL2, ?_⟩
    rintro _ rfl
    refine cx_270_0 _ ?_
    refine cp_174k (b := 6) rfl rfl (fun _ => cp_r1 ⟨fun h => absurd h (by decide), fun _ => ?_⟩) (fun hc => absurd h6 hc)
    refine cp_173 (cp_r1 ?_)
    rw [if_pos rfl]
    refine ⟨fun h => absurd h (by decide), fun _ => ?_⟩
    rintro _ rfl
    have hv := h j hj6
    have r41 : ∀ b i, ¬ b = 83 → (cm_wI (cm_wJ S 132 (0 : Int32).toNatClampNeg (S.1 79 j).toInt64) 83 75 0).1 b i = S.1 b i := fun b i hb => by rw [cp_wI1, if_neg (by omega)]; rfl
    have r41b : (cm_wI (cm_wJ S 132 (0 : Int32).toNatClampNeg (S.1 79 j).toInt64) 83 75 0).1 83 41 = S.1 83 41 := by rw [cp_wI1, if_neg (by omega)]; rfl
    have r75 : (cm_wI (cm_wJ S 132 (0 : Int32).toNatClampNeg (S.1 79 j).toInt64) 83 75 0).1 83 75 = 0 := by rw [cp_wI1, if_pos ⟨rfl, rfl⟩]
    have v132 : (cm_wI (cm_wJ S 132 (0 : Int32).toNatClampNeg (S.1 79 j).toInt64) 83 75 0).2 132 0 = (S.1 79 j).toInt64 := by rw [cp_wI2, cp_wJ2]; exact if_pos ⟨rfl, rfl⟩
    have fw : cf_W (fun b j => decide (b = 132 ∨ b = 83 ∧ j = 75)) S (cm_wI (cm_wJ S 132 (0 : Int32).toNatClampNeg (S.1 79 j).toInt64) 83 75 0) := cf_tr (cf_wJ (decide_eq_true (by omega))) (cf_wI (decide_eq_true (by omega)))
    rw [r41b]
    refine ⟨fun h0 => ?_, fun h0 => ⟨cp_in hj6 (by decide), ?_⟩⟩
    · rw [if_pos h0] at hv
      try dsimp only [cm_sh]
      refine cp_r1 ?_
      refine cp_172 (cp_r1 ?_)
      rw [r75]
      refine ⟨fun _ => ⟨fun h1 => ⟨cp_in (i := 0) (by decide) (by decide), ?_⟩, fun h1 => absurd rfl h1⟩, fun hc => absurd rfl hc⟩
      rintro _ rfl
      refine ⟨fun _ => cx_300_1860 _ _ _ (cp_shz (cp_shz (k _ 0 _ _ (by omega) fw))), fun hc => absurd ?_ hc⟩
      show lg_cmp ((cm_wI (cm_wJ S 132 (0 : Int32).toNatClampNeg (S.1 79 j).toInt64) 83 75 0).2 132 0) _ = 0
      rw [v132, hv]
      unfold lg_cmp
      exact (if_neg (by simp)).trans (if_pos rfl)
    · rw [cp_cl (by omega), r41 128 j (by omega)]
      rintro _ rfl
      rw [if_neg h0] at hv
      try dsimp only [cm_sh]
      refine cp_r1 ?_
      refine cp_172 (cp_r1 ?_)
      rw [r75]
      refine ⟨fun _ => ⟨fun h1 => ⟨cp_in (i := 0) (by decide) (by decide), ?_⟩, fun h1 => absurd rfl h1⟩, fun hc => absurd rfl hc⟩
      rintro _ rfl
      refine ⟨fun _ => cx_300_1860 _ _ _ (cp_shz (cp_shz (k _ 0 _ _ (by omega) fw))), fun hc => absurd ?_ hc⟩
      show lg_cmp ((cm_wI (cm_wJ S 132 (0 : Int32).toNatClampNeg (S.1 79 j).toInt64) 83 75 0).2 132 0) _ = 0
      rw [v132, hv]
      unfold lg_cmp
      exact (if_neg (by simp)).trans (if_pos rfl)
  · try dsimp only [cm_sh]
    refine cp_x1 ?_
    refine ⟨by decide, fun h => absurd h (by decide), fun _ => ?_, fun h => absurd h (by decide)⟩
    try dsimp only [cm_sh]
    refine cp_r1 ⟨cr_in (j := 1) (by omega) hL2, ?_⟩
    rintro _ rfl
    refine cx_270_0 _ ?_
    refine cp_174k (b := 6) rfl rfl (fun hc => absurd hc h6) (fun _ => cp_r1 ⟨fun _ => ?_, fun h => absurd rfl h⟩)
    refine cp_173 (cp_r1 ?_)
    rw [if_neg (by decide)]
    refine ⟨fun _ => ?_, fun h => absurd rfl h⟩
    try dsimp only [cm_sh]
    refine cp_r1 ?_
    refine cp_172 (cp_r1 ?_)
    rw [show (cm_wI S 83 75 1).1 83 75 = 1 from by rw [cp_wI1, if_pos ⟨rfl, rfl⟩]]
    exact ⟨fun _ => ⟨fun h0 => absurd h0 (by decide), fun _ => cx_300_1860 _ _ _ (cp_shz (cp_shz (k _ 1 _ _ (Nat.le_refl _) (cf_wI (decide_eq_true (by omega))))))⟩, fun h => absurd rfl h⟩
end CP71
