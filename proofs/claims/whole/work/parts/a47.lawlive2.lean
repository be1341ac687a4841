/-! ## a47 the law's case of live, done -/
section CPa47
variable {L : Nat} {xs : Nat → Int32} {d : Nat} {N : List ct_E} {T U : Nat → ct_T} {R : List (Int32 × Int32 × Int32 × Int32)} {c n : Nat} {S : cm_S} {K : cm_K} {o5 o6 : Option Value}
/-- what live counts on both sides is the same -/
theorem dl_both {M : cm_S} {V : Nat → ct_T} {G : dm_Gs} {nc ne nv dd : Nat} {cs : Nat → List Int32} (hM : dl_M M V G nc ne nv) (hdd : dd < 8) (hv : ∀ m, m < nc → ¬ m = 8 → ∀ c, c ∈ cs m → dl_v nc c) : dl_run cs 8009 0 [dd] 0 = dl_run cs 8009 0 (dl_ads [] (cs dd)) 0 := by
  have hnc := hM.2.1
  have h9 := hM.1.2.1
  have hok0 : dl_ok nc [] := ⟨List.nodup_nil, fun m hm => absurd hm List.not_mem_nil⟩
  have hok1 : dl_ok nc [dd] := ⟨by simp, fun m hm => by rw [List.mem_singleton] at hm; omega⟩
  have hvd := hv dd (by omega) (by omega)
  have e1 : dl_ads [dd] (cs dd) = dd :: dl_x dd (dl_ads [] (cs dd)) := dl_x_ads (dd := dd) (cs dd) []
  have hok2 := dl_ads_ok hnc (cs dd) [] hok0 hvd
  have hok3 := dl_ads_ok hnc (cs dd) [dd] hok1 hvd
  rw [e1] at hok3
  have e2 : ∀ k : Nat, dl_run cs (k + 1) 0 [dd] 0 = dl_run cs k 1 (dl_ads [dd] (cs dd)) (0 + if 9 ≤ dd then 1 else 0) := fun k => rfl
  have e3 := e2 8008
  rw [e1, if_neg (by omega)] at e3
  refine e3.trans ?_
  have h := dl_eq (cs := cs) hdd hnc hv 8009 8008 0 (dl_ads [] (cs dd)) 0 hok2 hok3 (Nat.zero_le _) (fun c hc => dl_ads_mem _ _ c hc) (by rw [List.take_zero]; show nc ≤ 8008 + (1 + 0); omega) (by omega)
  rw [List.take_zero] at h
  exact h
theorem cr_live (hb : cr_b N T U R c S) (hmr : cr_mr S) (k : ∀ S2 e q5 q6, e ≤ 1 → cr_b N T U R c S2 → cr_mr S2 → cm_At (am_XX L xs) (d + 159) 300 1907 [some (.ref 1000000), some (.ref 0), some (.ref 83), some (.ref 132), some (.int (Int32.ofNat n)), some (.int q5), some (.int q6), none] [] S2 (cm_sh K e)) :
    cm_At (am_XX L xs) (d + 159) 300 1863 [some (.ref 1000000), some (.ref 0), some (.ref 83), some (.ref 132), some (.int (Int32.ofNat n)), o5, o6, none] [] S K := by
  obtain ⟨hce, hcf⟩ := cr_ok_iff hmr
  have keep : ∀ (S2 : cm_S), cf_W dl_WS S S2 → cr_b N T U R c S2 ∧ cr_mr S2 := fun S2 f => by
    exact ⟨cr_b_f3 f (fun b j h => by have h := of_decide_eq_true h; omega) (cl_cs_f f (decide_eq_false (by omega)) (fun j => decide_eq_false (by omega)) hb.2.2.2.2.2.2.2.2.2.2.2.2.2) hb, cr_mr_cf f (fun b j h => decide_eq_false (by omega)) hmr⟩
  refine cx_300_1863 _ _ _ ?_
  refine cx_299_0 ?_
  refine cx_156_0 ?_
  refine cp_160 (d := d + 155) (fun hok => cp_r0 ?_) (fun hok => cp_x0 ?_)
  · obtain ⟨e1, e41, V, st, lim, wc, sh, dd, o, hfin, ho, hb1, hb2, hb3, hb4⟩ := hcf hok
    obtain ⟨G, nc, ne, nf, nv, g1, g2, ⟨g3, g4, g5, g6, g7⟩, g8, g9, g10, g11, g12⟩ := hfin
    obtain ⟨hrA, hnf⟩ := g12 ho
    subst hnf
    obtain ⟨r1, r2, r3, r4⟩ := hrA
    have hnc2 : nc + 0 ≤ 9 + 2 * st := g3
    have hne2 : ne + 2 * 0 ≤ 2 * st := g4
    have hnv2 : nv + 0 ≤ st := g5
    have hroot : ¬ S.1 83 44 = -1 ∧ S.1 83 44 = S.1 116 dd := by
      rcases r4 with ⟨_, _, h5, _⟩ | ⟨h5, h6, _⟩
      · omega
      · exact ⟨h5, h6⟩
    have hM : dl_M S V G nc ne nv := ⟨g1, by omega, by omega, by omega, fun m hm hm8 hbz => by
      obtain ⟨i, i1, _⟩ := r3.2 m hm hm8 hbz
      omega⟩
    have hex : ∀ m, ∃ l : List Int32, m < nc → ¬ m = 8 → (∀ c, c ∈ l → dl_v nc c) ∧ dl_C S nc m l ∧ dl_N S nc m l := fun m => by
      by_cases hm : m < nc ∧ ¬ m = 8
      · obtain ⟨l, hl⟩ := dl_cell hM hm.1 hm.2
        exact ⟨l, fun _ _ => hl⟩
      · exact ⟨[], fun h1 h2 => absurd ⟨h1, h2⟩ hm⟩
    obtain ⟨cs, hcs⟩ := Classical.skolem.mp hex
    have hv : ∀ m, m < nc → ¬ m = 8 → ∀ c, c ∈ cs m → dl_v nc c := fun m h1 h2 => (hcs m h1 h2).1
    have heq := dl_both hM r2 hv
    intro x4 h4
    rw [h4, r1]
    refine cp_102 (d := d + 149) hM r2 hv (fun m h1 h2 => (hcs m h1 h2).2.1) (fun A2 fA => cp_r1 ?_)
    try dsimp only [cm_sh]
    refine cp_r1 ⟨cp_in (i := 0) (by decide) (by decide), ?_⟩
    intro S5 h5
    rw [h5]
    have v132 : (cm_wJ A2 132 (0 : Int32).toNatClampNeg (Int32.ofNat (dl_run cs 8009 0 [dd] 0)).toInt64).2 132 0 = (Int32.ofNat (dl_run cs 8009 0 [dd] 0)).toInt64 := by rw [cp_wJ2]; exact if_pos ⟨rfl, rfl⟩
    have f1 : cf_W (fun b j => decide (80 ≤ b ∧ b ≤ 82 ∨ b = 132)) S (cm_wJ A2 132 (0 : Int32).toNatClampNeg (Int32.ofNat (dl_run cs 8009 0 [dd] 0)).toInt64) := cf_tr (cf_mono fA (fun b j h => decide_eq_true (by have h := of_decide_eq_true h; omega))) (cf_wJ (decide_eq_true (by omega)))
    generalize cm_wJ A2 132 (0 : Int32).toNatClampNeg (Int32.ofNat (dl_run cs 8009 0 [dd] 0)).toInt64 = Aw at v132 f1 ⊢
    try dsimp only [cm_sh]
    refine cp_r1 ?_
    refine cx_274_0 ?_
    have hokA : cr_okS Aw := by
      obtain ⟨q1, q2, q3⟩ := hce.mp hok
      unfold cr_okS
      rw [(f1 83 41 (decide_eq_false (by omega))).1, (f1 83 40 (decide_eq_false (by omega))).1]
      exact ⟨q1, q2, q3⟩
    refine cp_266 (d := d + 155) (fun _ => cp_r1 ?_) (fun hn => absurd hokA hn)
    refine ⟨fun h => absurd h (by decide), fun _ => ?_⟩
    have f2 : cf_W dl_WS S (cm_wI Aw 83 75 0) := cf_tr (cf_mono f1 (fun b j h => decide_eq_true (by have h := of_decide_eq_true h; omega))) (cf_wI (decide_eq_true (by omega)))
    simp only [dk_sh0]
    refine cp_274m (d := d + 1) (w := (Int32.ofNat (dl_run cs 8009 0 [dd] 0)).toInt64) hM r2 hroot.2 (by rw [← hroot.2]; exact hroot.1) hv (fun m h1 h2 => (hcs m h1 h2).2.2) f2 (by rw [cp_wI1, if_pos ⟨rfl, rfl⟩]) (by rw [cp_wI2]; exact v132) (fun S2 h75 h132 f3 => cp_r1 ?_)
    refine cp_172 (cp_r1 ?_)
    rw [h75]
    refine ⟨fun _ => ⟨fun _ => ⟨cp_in (i := 0) (by decide) (by decide), ?_⟩, fun h => absurd (by first | exact trivial | rfl) h⟩, fun h => absurd (by first | exact trivial | rfl) h⟩
    intro x13 h13
    rw [h13, show (0 : Int32).toNatClampNeg = 0 from rfl, h132, heq]
    refine ⟨fun _ => cx_300_1904 _ _ _ ?_, fun h => absurd (cu_lg.mpr rfl) h⟩
    obtain ⟨k1, k2⟩ := keep S2 f3
    have hk := k S2 0 0 (Int32.ofNat (dl_run cs 8009 0 (dl_ads [] (cs dd)) 0)) (Nat.zero_le _) k1 k2
    simp only [dk_sh0, Nat.add_zero] at hk ⊢
    exact hk
  · try dsimp only [cm_sh]
    refine cp_x1 ?_
    refine ⟨by decide, fun h => absurd h (by decide), fun h => absurd h (by decide), fun _ => ?_⟩
    try dsimp only [cm_sh]
    refine cp_r1 ?_
    refine cx_274_0 ?_
    refine cp_266 (d := d + 155) (fun hx => absurd (hce.mpr hx) hok) (fun _ => cp_r1 ?_)
    refine ⟨fun _ => ?_, fun h => absurd rfl h⟩
    try dsimp only [cm_sh]
    refine cp_r1 ?_
    refine cp_172 (cp_r1 ?_)
    rw [show (cm_wI S 83 75 1).1 83 75 = 1 from by rw [cp_wI1, if_pos ⟨rfl, rfl⟩]]
    refine ⟨fun _ => ⟨fun h => absurd h (by decide), fun _ => cx_300_1904 _ _ _ ?_⟩, fun h => absurd rfl h⟩
    obtain ⟨k1, k2⟩ := keep (cm_wI S 83 75 1) (cf_wI (decide_eq_true (by omega)))
    have hk := k (cm_wI S 83 75 1) 1 1 0 (Nat.le_refl _) k1 k2
    simp only [dk_sh0, Nat.add_zero] at hk ⊢
    exact hk
end CPa47
