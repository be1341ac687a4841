/-! ## a46 the law's case of live -/
section CPa46
variable {L : Nat} {xs : Nat → Int32} {d : Nat} {M : cm_S} {K : cm_K} {V : Nat → ct_T} {G : dm_Gs} {nc ne nv dd : Nat} {cs : Nat → List Int32}
theorem cp_102z {q1 : Int32} : ∀ (m n : Nat) (A : cm_S) (K : cm_K), n + m = 8009 → (∀ i, i < n → A.1 82 i = 0) → (∀ A2, (∀ i, i < 8009 → A2.1 82 i = 0) → cf_W (fun b _ => decide (b = 82)) A A2 → cm_At (am_XX L xs) (d + 7) 102 7 [some (.ref 80), some (.int q1), some (.int (Int32.ofNat 8009)), none, none] [] A2 K) → cm_At (am_XX L xs) (d + 7) 102 7 [some (.ref 80), some (.int q1), some (.int (Int32.ofNat n)), none, none] [] A K
  | 0, n, A, K, hn, hi, k => by
    have hn6 : n = 8009 := by omega
    subst hn6
    exact k A hi cf_rfl
  | m + 1, n, A, K, hn, hi, k => by
    refine cx_102_7 _ _ ⟨fun _ => ?_, fun h => absurd ((cp_lt (by omega) (by omega)).mpr (by omega)) h⟩
    refine ⟨cp_in (by omega) (by decide), ?_⟩
    rw [cp_cl (n := n) (by omega), show Int32.ofNat n + 1 = Int32.ofNat (n + 1) from cp_ad (b := 1)]
    intro S4 h4
    rw [h4]
    have f1 : cf_W (fun b _ => decide (b = 82)) A (cm_wI A 82 n (vp_nar .boolean (0 : Int32))) := cf_wI (decide_eq_true rfl)
    refine cp_102z m (n + 1) _ K (by omega) (fun i hin => ?_) (fun A3 g1 g2 => k A3 g1 (cf_tr f1 g2))
    rw [cp_wI1]
    by_cases hie : i = n
    · rw [if_pos ⟨rfl, hie⟩]; rfl
    · rw [if_neg (fun hx => hie hx.2)]; exact hi i (by omega)
theorem cp_102l (hnc : nc ≤ 8009) (hv : ∀ m, m < nc → ¬ m = 8 → ∀ c, c ∈ cs m → dl_v nc c) (hC : ∀ m, m < nc → ¬ m = 8 → dl_C M nc m (cs m)) {q1 : Int32} : ∀ (n i : Nat) (A : cm_S) (Ls : List Nat) (acc : Nat) (o4 : Option Value) (K : cm_K), dl_A A Ls → dl_ok nc Ls → cf_W dl_WA M A → nc ≤ n + i → i ≤ 8009 → (∀ A2, cf_W dl_WA M A2 → K (.inl (some (.int (Int32.ofNat (dl_run cs n i Ls acc))))) A2 0) → cm_At (am_XX L xs) (d + 7) 102 38 [some (.ref 80), some (.int q1), some (.int (Int32.ofNat acc)), some (.int (Int32.ofNat i)), o4] [] A K
  | 0, i, A, Ls, acc, o4, K, hA, hok, fA, hn, hi, k => by
    have hl := dl_ok_len hok
    refine cx_102_38 _ _ _ _ ?_
    intro x1 h1
    rw [h1, hA.1, cp_lt (by omega) (by omega)]
    exact ⟨fun hx => absurd hx (by omega), fun _ => k A fA⟩
  | n + 1, i, A, Ls, acc, o4, K, hA, hok, fA, hn, hi, k => by
    have hl := dl_ok_len hok
    refine cx_102_38 _ _ _ _ ?_
    intro x1 h1
    rw [h1, hA.1, cp_lt (by omega) (by omega)]
    by_cases hil : i < Ls.length
    · have hmem : Ls[i] ∈ Ls := List.getElem_mem hil
      obtain ⟨hm1, hm2⟩ := hok.2 _ hmem
      have hr : dl_run cs (n + 1) i Ls acc = dl_run cs n (i + 1) (dl_ads Ls (cs Ls[i])) (acc + if 9 ≤ Ls[i] then 1 else 0) := by
        show (match Ls[i]? with
          | none => acc
          | some m => dl_run cs n (i + 1) (dl_ads Ls (cs m)) (acc + if 9 ≤ m then 1 else 0)) = _
        rw [List.getElem?_eq_getElem hil]
      rw [hr] at k
      have h81 := hA.2.1 i _ (List.getElem?_eq_getElem hil)
      refine ⟨fun _ => ⟨fun _ => ?_, fun hx => absurd (by rw [show (8009 : Int32) = Int32.ofNat 8009 from rfl, cp_lt (by omega) (by omega)]; omega) hx⟩, fun hx => absurd hil hx⟩
      refine cp_166 (by decide) (cp_r1 ?_)
      rw [cp_g_at (by rw [dm_rl2]; omega) (by decide +kernel), h81, show Int32.ofNat i + 1 = Int32.ofNat (i + 1) from cp_ad (b := 1)]
      generalize hm : Ls[i] = m at hm1 hm2 k
      refine hC m hm1 hm2 L xs d A Ls _ hA hok fA (fun A2 a1 a2 => cp_r0 ?_)
      simp only [dk_sh0]
      have hok2 := dl_ads_ok hnc _ _ hok (hv m hm1 hm2)
      rw [show (9 : Int32) = Int32.ofNat 9 from rfl, cp_lt (by omega) (by omega)]
      refine ⟨fun h9 => ?_, fun h9 => ?_⟩
      · rw [if_neg (by omega)] at k
        rw [show Int32.ofNat acc + 0 = Int32.ofNat (acc + 0) from cp_ad (b := 0)]
        exact cp_102l hnc hv hC n (i + 1) A2 _ (acc + 0) _ K a1 hok2 a2 (by omega) (by omega) k
      · rw [if_pos (by omega)] at k
        rw [show Int32.ofNat acc + 1 = Int32.ofNat (acc + 1) from cp_ad (b := 1)]
        exact cp_102l hnc hv hC n (i + 1) A2 _ (acc + 1) _ K a1 hok2 a2 (by omega) (by omega) k
    · have hr : dl_run cs (n + 1) i Ls acc = acc := by
        show (match Ls[i]? with
          | none => acc
          | some m => dl_run cs n (i + 1) (dl_ads Ls (cs m)) (acc + if 9 ≤ m then 1 else 0)) = _
        rw [List.getElem?_eq_none (by omega)]
      rw [hr] at k
      exact ⟨fun hx => absurd hx hil, fun _ => k A fA⟩
theorem cp_102 (hM : dl_M M V G nc ne nv) (hdd : dd < 8) (hv : ∀ m, m < nc → ¬ m = 8 → ∀ c, c ∈ cs m → dl_v nc c) (hC : ∀ m, m < nc → ¬ m = 8 → dl_C M nc m (cs m)) (k : ∀ A2, cf_W dl_WA M A2 → K (.inl (some (.int (Int32.ofNat (dl_run cs 8009 0 [dd] 0))))) A2 0) : cm_At (am_XX L xs) (d + 7) 102 0 [some (.ref 80), some (.int (Int32.ofNat dd)), none, none, none] [] M K := by
  have hnc := hM.2.1
  have h9 := hM.1.2.1
  refine cx_102_0 _ ?_
  intro S1 h1
  rw [h1]
  refine cp_102z 8009 0 _ K (by omega) (fun i hi => absurd hi (Nat.not_lt_zero i)) (fun A2 g1 g2 => ?_)
  have e4 : A2.1 80 4 = Int32.ofNat 0 := by
    rw [(g2 80 4 (decide_eq_false (by omega))).1, cp_wI1, if_pos ⟨rfl, rfl⟩]; rfl
  have hA : dl_A A2 [] := ⟨e4, fun i m h => by simp at h, fun m hm => by rw [g1 m hm, if_neg (by simp)]⟩
  have fA : cf_W dl_WA M A2 := cf_tr (cf_wI (decide_eq_true (by omega))) (cf_mono g2 (fun b j h => decide_eq_true (by have h := of_decide_eq_true h; omega)))
  have hok0 : dl_ok nc [] := ⟨List.nodup_nil, fun m hm => absurd hm List.not_mem_nil⟩
  have hvd : dl_v nc (Int32.ofNat dd) := Or.inr ⟨dd, by omega, by omega, rfl⟩
  refine cx_102_7 _ _ ⟨fun h => absurd h (by decide), fun _ => ?_⟩
  refine cp_103 hA hok0 hnc hvd (fun A3 a1 a2 => cp_r0 ?_)
  have e1 : dl_ad [] (Int32.ofNat dd) = [dd] := by rw [dl_ad_in (by omega), if_neg List.not_mem_nil]; rfl
  have hok1 := dl_ad_ok hok0 hnc hvd
  rw [e1] at a1 hok1
  simp only [dk_sh0]
  exact cp_102l hnc hv hC 8009 0 A3 [dd] 0 none K a1 hok1 (cf_tr fA a2) (by omega) (by omega) k
/-! the model -/
theorem cp_274z : ∀ (m n : Nat) (S : cm_S) (K : cm_K), n + m = nc - 1 → nc ≤ 8009 → S.1 83 45 = Int32.ofNat (nc - 1) → (∀ i, i < n → S.1 130 i = 0) → (∀ S2, (∀ i, i < nc - 1 → S2.1 130 i = 0) → cf_W (fun b _ => decide (b = 130)) S S2 → cm_At (am_XX L xs) (d + 157) 274 11 [some (.ref 83), some (.int (Int32.ofNat (nc - 1))), none, none] [] S2 K) → cm_At (am_XX L xs) (d + 157) 274 11 [some (.ref 83), some (.int (Int32.ofNat n)), none, none] [] S K
  | 0, n, S, K, hn, hnc, h45, hi, k => by
    have hn6 : n = nc - 1 := by omega
    subst hn6
    exact k S hi cf_rfl
  | m + 1, n, S, K, hn, hnc, h45, hi, k => by
    refine cx_274_11 _ ?_
    intro x1 h1
    rw [h1, h45, cp_lt (by omega) (by omega)]
    refine ⟨fun _ => ⟨cp_in (by omega) (by decide), ?_⟩, fun hx => absurd (by omega) hx⟩
    rw [cp_cl (n := n) (by omega), show Int32.ofNat n + 1 = Int32.ofNat (n + 1) from cp_ad (b := 1)]
    intro S7 h7
    rw [h7]
    have f1 : cf_W (fun b _ => decide (b = 130)) S (cm_wI S 130 n (vp_nar .boolean (0 : Int32))) := cf_wI (decide_eq_true rfl)
    refine cp_274z m (n + 1) _ K (by omega) hnc (by rw [cp_wI1, if_neg (by omega)]; exact h45) (fun i hin => ?_) (fun S3 g1 g2 => k S3 g1 (cf_tr f1 g2))
    rw [cp_wI1]
    by_cases hie : i = n
    · rw [if_pos ⟨rfl, hie⟩]; rfl
    · rw [if_neg (fun hx => hie hx.2)]; exact hi i (by omega)
theorem cp_274l (hM : dl_M M V G nc ne nv) (hv : ∀ m, m < nc → ¬ m = 8 → ∀ c, c ∈ cs m → dl_v nc c) (hN : ∀ m, m < nc → ¬ m = 8 → dl_N M nc m (cs m)) {w : Int64} : ∀ (n j : Nat) (S : cm_S) (Ls : List Nat) (acc : Nat) (o3 : Option Value) (K : cm_K), dl_S S nc w Ls → dl_ok nc Ls → cf_W dl_WS M S → nc ≤ n + j → j ≤ 8009 → (∀ S2, S2.1 83 75 = 0 → S2.2 132 0 = w → cf_W dl_WS M S2 → K (.inl (some (.int (Int32.ofNat (dl_run cs n j Ls acc))))) S2 0) → cm_At (am_XX L xs) (d + 157) 274 49 [some (.ref 83), some (.int (Int32.ofNat acc)), some (.int (Int32.ofNat j)), o3] [] S K
  | 0, j, S, Ls, acc, o3, K, hS, hok, fS, hn, hj, k => by
    have hl := dl_ok_len hok
    have hnc := hM.2.1
    refine cx_274_49 _ _ _ ?_
    intro x1 h1
    rw [h1, hS.1.1, cp_lt (by omega) (by omega)]
    exact ⟨fun hx => absurd hx (by omega), fun _ => k S hS.1.2.1 hS.1.2.2 fS⟩
  | n + 1, j, S, Ls, acc, o3, K, hS, hok, fS, hn, hj, k => by
    have hl := dl_ok_len hok
    have hnc := hM.2.1
    refine cx_274_49 _ _ _ ?_
    intro x1 h1
    rw [h1, hS.1.1, cp_lt (by omega) (by omega)]
    by_cases hil : j < Ls.length
    · have hmem : Ls[j] ∈ Ls := List.getElem_mem hil
      obtain ⟨hm1, hm2⟩ := hok.2 _ hmem
      have hr : dl_run cs (n + 1) j Ls acc = dl_run cs n (j + 1) (dl_ads Ls (cs Ls[j])) (acc + if 9 ≤ Ls[j] then 1 else 0) := by
        show (match Ls[j]? with
          | none => acc
          | some m => dl_run cs n (j + 1) (dl_ads Ls (cs m)) (acc + if 9 ≤ m then 1 else 0)) = _
        rw [List.getElem?_eq_getElem hil]
      rw [hr] at k
      have h131 := hS.2.1 j _ (List.getElem?_eq_getElem hil)
      refine ⟨fun _ => ⟨cp_in (by omega) (by decide), ?_⟩, fun hx => absurd hil hx⟩
      rw [cp_cl (n := j) (by omega), show Int32.ofNat j + 1 = Int32.ofNat (j + 1) from cp_ad (b := 1)]
      intro x2 h2
      rw [h2, h131]
      generalize hm : Ls[j] = m at hm1 hm2 k
      have hmc : dm_mc m < 8192 := by unfold dm_mc; split <;> omega
      have hok2 := dl_ads_ok hnc _ _ hok (hv m hm1 hm2)
      have hcell : ∀ (acc2 : Nat) (K3 : cm_K), (∀ S2, dl_S S2 nc w (dl_ads Ls (cs m)) → cf_W dl_WS M S2 → K3 (.inl none) S2 0) → (S.1 116 (dm_mc m) = -1 → cm_At (am_XX L xs) (d + 156) 272 0 [some (.ref 83), some (.int (S.1 114 (dm_mc m))), some (.int (S.1 115 (dm_mc m)))] [] S K3) ∧ (¬ S.1 116 (dm_mc m) = -1 → cm_At (am_XX L xs) (d + 156) 273 0 [some (.ref 83), some (.int (S.1 116 (dm_mc m)))] [] S K3) := fun acc2 K3 hk => by
        rw [(fS 116 (dm_mc m) (decide_eq_false (by omega))).1, (fS 114 (dm_mc m) (decide_eq_false (by omega))).1, (fS 115 (dm_mc m) (decide_eq_false (by omega))).1]
        exact hN m hm1 hm2 w L xs d S Ls K3 hS hok fS hk
      have go : ∀ (acc2 : Nat) (o3 : Option Value), acc2 = acc + (if 9 ≤ m then 1 else 0) → ∀ S2, dl_S S2 nc w (dl_ads Ls (cs m)) → cf_W dl_WS M S2 → cm_At (am_XX L xs) (d + 157) 274 49 [some (.ref 83), some (.int (Int32.ofNat acc2)), some (.int (Int32.ofNat (j + 1))), o3] [] S2 K := fun acc2 o3 ha S2 g1 g2 => by
        rw [ha]
        exact cp_274l hM hv hN n (j + 1) S2 _ _ _ K g1 hok2 g2 (by omega) (by omega) k
      have h8 : Int32.ofNat (dm_mc m) < (8 : Int32) ↔ m < 8 := by
        rw [show (8 : Int32) = Int32.ofNat 8 from rfl, cp_lt (by omega) (by omega)]
        unfold dm_mc
        split <;> omega
      rw [h8, cp_cl (n := dm_mc m) (by omega)]
      refine ⟨fun h => ?_, fun h => ?_⟩
      · have ha : acc + 0 = acc + (if 9 ≤ m then 1 else 0) := by rw [if_neg (by omega)]
        refine ⟨cp_in hmc (by decide), ?_⟩
        intro x13 h13
        rw [h13]
        refine ⟨fun hx => ⟨cp_in hmc (by decide), ?_⟩, fun hx => ⟨cp_in hmc (by decide), ?_⟩⟩
        · intro x14 h14
          refine ⟨cp_in hmc (by decide), ?_⟩
          intro x15 h15
          rw [h14, h15]
          refine (hcell 0 _ (fun S2 g1 g2 => cp_r0 ?_)).1 hx
          rw [dk_sh0, show Int32.ofNat acc + 0 = Int32.ofNat (acc + 0) from cp_ad (b := 0)]
          exact go (acc + 0) _ ha S2 g1 g2
        · intro x19 h19
          rw [h19]
          refine (hcell 0 _ (fun S2 g1 g2 => cp_r0 ?_)).2 hx
          rw [dk_sh0, show Int32.ofNat acc + 0 = Int32.ofNat (acc + 0) from cp_ad (b := 0)]
          exact go (acc + 0) _ ha S2 g1 g2
      · have ha : acc + 1 = acc + (if 9 ≤ m then 1 else 0) := by rw [if_pos (by omega)]
        refine ⟨cp_in hmc (by decide), ?_⟩
        intro x13 h13
        rw [h13]
        refine ⟨fun hx => ⟨cp_in hmc (by decide), ?_⟩, fun hx => ⟨cp_in hmc (by decide), ?_⟩⟩
        · intro x14 h14
          refine ⟨cp_in hmc (by decide), ?_⟩
          intro x15 h15
          rw [h14, h15]
          refine (hcell 0 _ (fun S2 g1 g2 => cp_r0 ?_)).1 hx
          rw [dk_sh0, show Int32.ofNat acc + 1 = Int32.ofNat (acc + 1) from cp_ad (b := 1)]
          exact go (acc + 1) _ ha S2 g1 g2
        · intro x19 h19
          rw [h19]
          refine (hcell 0 _ (fun S2 g1 g2 => cp_r0 ?_)).2 hx
          rw [dk_sh0, show Int32.ofNat acc + 1 = Int32.ofNat (acc + 1) from cp_ad (b := 1)]
          exact go (acc + 1) _ ha S2 g1 g2
    · have hr : dl_run cs (n + 1) j Ls acc = acc := by
        show (match Ls[j]? with
          | none => acc
          | some m => dl_run cs n (j + 1) (dl_ads Ls (cs m)) (acc + if 9 ≤ m then 1 else 0)) = _
        rw [List.getElem?_eq_none (by omega)]
      rw [hr] at k
      exact ⟨fun hx => absurd hx hil, fun _ => k S hS.1.2.1 hS.1.2.2 fS⟩
theorem cp_274m (hM : dl_M M V G nc ne nv) (hdd : dd < 8) (hroot : M.1 83 44 = M.1 116 dd) (hrn : ¬ M.1 116 dd = -1) (hv : ∀ m, m < nc → ¬ m = 8 → ∀ c, c ∈ cs m → dl_v nc c) (hN : ∀ m, m < nc → ¬ m = 8 → dl_N M nc m (cs m)) {w : Int64} {S : cm_S} (f0 : cf_W dl_WS M S) (h75 : S.1 83 75 = 0) (h132 : S.2 132 0 = w) (k : ∀ S2, S2.1 83 75 = 0 → S2.2 132 0 = w → cf_W dl_WS M S2 → K (.inl (some (.int (Int32.ofNat (dl_run cs 8009 0 (dl_ads [] (cs dd)) 0))))) S2 0) : cm_At (am_XX L xs) (d + 157) 274 11 [some (.ref 83), some (.int 0), none, none] [] S K := by
  have hnc := hM.2.1
  have h9 := hM.1.2.1
  have h45 : S.1 83 45 = Int32.ofNat (nc - 1) := (f0 83 45 (decide_eq_false (by omega))).1.trans hM.1.2.2.2.1
  refine cp_274z (nc := nc) (nc - 1) 0 S K (by omega) hnc h45 (fun i hi => absurd hi (Nat.not_lt_zero i)) (fun S2 g1 g2 => ?_)
  have f2 : cf_W dl_WS M S2 := cf_tr f0 (cf_mono g2 (fun b j h => decide_eq_true (by have h := of_decide_eq_true h; omega)))
  refine cx_274_11 _ ?_
  intro x1 h1
  rw [h1, (g2 83 45 (decide_eq_false (by omega))).1, h45]
  refine ⟨fun hx => absurd hx (by rw [cp_lt (by omega) (by omega)]; exact Nat.lt_irrefl _), fun _ => ?_⟩
  intro S3 h3
  rw [h3]
  have f3 : cf_W dl_WS M (cm_wI S2 83 73 0) := cf_tr f2 (cf_wI (decide_eq_true (by omega)))
  have hS : dl_S (cm_wI S2 83 73 0) nc w [] := by
    refine ⟨⟨by rw [cp_wI1, if_pos ⟨rfl, rfl⟩]; rfl, by rw [cp_wI1, if_neg (by omega), (g2 83 75 (decide_eq_false (by omega))).1]; exact h75, by rw [cp_wI2, (g2 132 0 (decide_eq_false (by omega))).2]; exact h132⟩, fun i m h => by simp at h, fun m hm hm8 => ?_⟩
    rw [cp_wI1, if_neg (by omega), g1 _ (dm_mc_lt hm hm8 h9), if_neg (by simp)]
  have hok0 : dl_ok nc [] := ⟨List.nodup_nil, fun m hm => absurd hm List.not_mem_nil⟩
  intro x3 h4
  have hmd : dm_mc dd = dd := by unfold dm_mc; rw [if_pos (by omega)]
  rw [h4, (f3 83 44 (decide_eq_false (by omega))).1, hroot]
  have hc := (hN dd (by omega) (by omega) w L xs d (cm_wI S2 83 73 0) [] (fun r S4 k5 => cm_r0 (cm_At (am_XX L xs) (d + 156 + 1) 274 49 [some (.ref 83), some (.int (0 : Int32)), some (.int (0 : Int32)), none] [] S4 (cm_sh K k5)) (fun e6 => K (.inr e6) S4 k5) r) hS hok0 f3 (fun S4 a1 a2 => cp_r0 (by
    rw [dk_sh0]
    exact cp_274l hM hv hN 8009 0 S4 _ 0 none K a1 (dl_ads_ok hnc _ _ hok0 (hv dd (by omega) (by omega))) a2 (by omega) (by omega) k))).2 (by rw [hmd]; exact hrn)
  rw [hmd] at hc
  exact hc
end CPa46
