/-! ## a12 the model's steps: simplifications -/
theorem dt_put_0 {v : ct_T} {x : Int32} : ∀ t, ct_wf t → ∀ n, ct_cn x (ct_fl t) = 0 → dt_put v x t n = (t, n) :=
  ct_ind (fun n _ => dt_put_lf) (fun e a b c hw iha ihb ihc n h => by
    rw [ct_cn_nd] at h
    rw [dt_put_nd]
    by_cases h2 : e.1 = 2
    · rw [if_pos h2]
      by_cases hx : e.2.2.1 = x
      · rw [if_pos ⟨h2, hx⟩] at h; omega
      · rw [if_neg hx]
    · rw [if_neg h2, iha n (by omega)]
      dsimp only
      rw [ihb n (by omega)]
      dsimp only
      rw [ihc n (by omega)])
theorem dm_at_of {q : Int32} : (1 ≤ q.toInt ∧ q.toInt ≤ 3) ↔ dt_at q = true := by
  have h : dt_at q = true ↔ q = 1 ∨ q = 2 ∨ q = 3 := decide_eq_true_iff
  rw [h, ← Int32.toInt_inj, ← Int32.toInt_inj, ← Int32.toInt_inj, show (1 : Int32).toInt = 1 from rfl, show (2 : Int32).toInt = 2 from rfl, show (3 : Int32).toInt = 3 from rfl]
  omega
section CPa12
variable {L : Nat} {xs : Nat → Int32} {d : Nat} {S : cm_S} {K : cm_K} {i nx n c0 : Nat} {e : ct_D} {a b c : ct_T} {fa fb fc sp rest : List Nat} {pa pb pc : Int32}
/-- a LET -/
theorem cp_218 {G : ct_G} (h : dm_p S i e a b c fa fb fc pa pb pc sp nx rest n c0) (he : e.1 = 6) (hbd : dt_bd n (ct_nd e a b c)) (hgc : dt_gc n G (ct_nd e a b c)) (hlx : ct_lx G (ct_nd e a b c)) (hcap : dm_c (dt_le n e a b) rest) (hn : n ≤ 32768) (hsa : ct_sz a ≤ 150) (hsb : ct_sz b ≤ 150) (k : dm_st (dt_le n e a b) S rest c0 K) :
    cm_At (am_XX L xs) (d + 480) 218 0 [some (.ref 83), some (.int (Int32.ofNat i)), none, none, none, none, none] [] S K := by
  obtain ⟨hnn, ta, tb, tc, hhp, h20, hcs, hw, hc0⟩ := h
  obtain ⟨p1, p2, wa, wb, wc⟩ := dt_w_nd hw
  obtain ⟨la, lb, lc⟩ := ct_q2 hw.1 (Or.inr (Or.inl he))
  have hga : ct_gd a := dt_gd wa (dt_bd_nd hbd).1 (dt_gc_nd p1 hbd hgc).1 (dt_lx_nd hw.1 hlx).1 hn
  subst lc
  obtain ⟨rfl, rfl⟩ := tc
  have dj1 := cl_dj hhp
  have i8 := hnn.1
  have hcl : cl_t S a pa fa := ta
  have hka : ∃ j, pa = Int32.ofNat j ∧ j < 8192 ∧ S.1 92 j = dt_k a := by
    obtain ⟨f, x, y, z, rfl⟩ := ct_cs wa.1 la
    obtain ⟨j, _, _, _, _, _, _, hj, hnj, _⟩ := cl_t_nn ta
    exact ⟨j, hj, hnj.1, (dm_nk hnj).1⟩
  obtain ⟨j, rfl, j8, kj⟩ := hka
  obtain ⟨ki, ni, vi, wi⟩ := dm_nk hnn
  have hcnle := Nat.le_trans (ct_cn_le (x := e.2.2.1) (ct_fl b)) (by rw [ct_fl_len]; exact hsb)
  have lena := (cl_t_len a wa.1 _ _ ta).1
  have lenb := (cl_t_len b wb.1 _ _ tb).1
  -- the end: put, frees, drops
  have g100 : ∀ (q4 q5 : Int32) (K2 : cm_K), (K2 = K) → dt_le n e a b = some (dt_put a e.2.2.1 b n) → cm_At (am_XX L xs) (d + 480) 218 100 [some (.ref 83), some (.int (Int32.ofNat i)), some (.int (Int32.ofNat j)), some (.int pb), some (.int q4), some (.int q5), none] [] S K2 := by
    intro q4 q5 K2 hK hle
    rw [hK]
    rw [hle] at k hcap
    obtain ⟨hm, hcp⟩ := hcap _ rfl
    refine cx_218_100 _ _ _ _ _ ⟨cp_in i8 (by decide), ?_⟩
    rw [cp_cl (by omega)]
    rintro _ rfl
    rw [vi]
    have hht := ct_ht_le b wb.1
    refine cp_209 (x := e.2.2.1) (pv := Int32.ofNat j) (fv := fa) hga la b wb.1 _ n c0 S pb fb sp (i :: (fa ++ rest)) nx _ (by omega) tb (cl_hp_to _ hhp (fun y => by simp only [List.count_append, List.count_cons, List.count_nil]; omega)) ta (fun y hy => by simp [hy]) (by rw [List.length_cons, List.length_append]; omega) hm h20 hcs (by omega) (fun S1 q fp2 sp1 nx1 t1 hp1 h201 hcs1 f1 => cp_r1 ?_)
    have ta1 := cl_t_mp wa.1 f1 (fun y hy => Or.inl (by simp [hy])) ta
    obtain ⟨wt2, lt2⟩ := dt_put_wf (x := e.2.2.1) wa.1 la b wb.1 n
    refine cp_194h (rest := fp2 ++ (i :: rest)) (by omega) wa.1 ta1 (cl_hp_to _ hp1 (fun y => by simp only [List.count_append, List.count_cons]; omega)) (fun S2 sp2 hp2 f2 => cp_r0 ?_)
    have t2 := cl_t_frr wt2 f2 t1
    have hp2' := cl_hp_to (i :: (fp2 ++ rest)) hp2 (fun y => by simp only [List.count_append, List.count_cons]; omega)
    refine cp_215 hp2' (fun S3 sp3 hp3 f3 => cp_r0 ?_)
    have hif : ¬ i ∈ fp2 := fun hc => by
      have := List.nodup_cons.mp (cl_hp_nd hp2')
      exact this.1 (by simp [hc])
    have t3 := cl_t_dp wt2 f3 hif t2
    obtain ⟨g, x, y, z, hg⟩ := ct_cs wt2 (fun hc => lb (lt2.mp hc))
    obtain ⟨m, hqm, hm8⟩ : ∃ m, q = Int32.ofNat m ∧ m < 8192 := by
      rw [hg] at t3
      obtain ⟨m, _, _, _, _, _, _, hq, hnm, _⟩ := cl_t_nn t3
      exact ⟨m, hq, hnm.1⟩
    subst hqm
    refine k S3 m fp2 sp3 nx1 _ t3 hm8 hp3 (dm_20 f3 (decide_eq_false (by omega)) (dm_20 f2 (decide_eq_false (by omega)) h201)) (cl_cs_f f3 (decide_eq_false (by omega)) (fun j => decide_eq_false (by omega)) (cl_cs_f f2 (decide_eq_false (by omega)) (fun j => decide_eq_false (by omega)) hcs1)) (by omega) (by omega) ?_
    exact cf_tr (cW_mp_mo (fun y hy => by simp [hy]) f1) (cf_tr (cW_mp_fr f2) (cW_mp_dp dj1.1.2.2.2.2 dj1.1.2.2.2.1 f3))
  have i0 : (0 : Int32) < Int32.ofNat (ct_cn e.2.2.1 (ct_fl b)) ↔ 0 < ct_cn e.2.2.1 (ct_fl b) := dk_pos (by omega)
  have i1 : Int32.ofNat (ct_cn e.2.2.1 (ct_fl b)) = 1 ↔ ct_cn e.2.2.1 (ct_fl b) = 1 := by rw [show (1 : Int32) = Int32.ofNat 1 from rfl, cp_inj (by omega) (by omega)]
  -- it is small
  have g81 : ∀ (K2 : cm_K), (K2 = K) → (dt_at (dt_k a) = true ∨ (ct_cn e.2.2.1 (ct_fl b) = 1 ∧ ct_cw e.2.2.1 b = 0) ∨ (dt_k a = 4 ∧ ct_sz a ≤ 6)) → cm_At (am_XX L xs) (d + 480) 218 81 [some (.ref 83), some (.int (Int32.ofNat i)), some (.int (Int32.ofNat j)), some (.int pb), some (.int (Int32.ofNat (ct_cn e.2.2.1 (ct_fl b)))), none, none] [] S K2 := by
    intro K2 hK hc
    have hle : dt_le n e a b = some (dt_put a e.2.2.1 b n) := by
      unfold dt_le
      by_cases h0 : ct_cn e.2.2.1 (ct_fl b) = 0
      · rw [if_pos h0, dt_put_0 b wb.1 n h0]
      · rw [if_neg h0, if_pos hc]
    exact cx_218_81 _ _ _ _ ⟨fun _ => ⟨fun h => absurd h (by decide), fun _ => g100 _ _ _ hK hle⟩, fun _ => g100 _ _ _ hK hle⟩
  -- it is not
  have g85 : ∀ (K2 : cm_K), (K2 = K) → ¬ (dt_at (dt_k a) = true ∨ (ct_cn e.2.2.1 (ct_fl b) = 1 ∧ ct_cw e.2.2.1 b = 0) ∨ (dt_k a = 4 ∧ ct_sz a ≤ 6)) → cm_At (am_XX L xs) (d + 480) 218 85 [some (.ref 83), some (.int (Int32.ofNat i)), some (.int (Int32.ofNat j)), some (.int pb), some (.int (Int32.ofNat (ct_cn e.2.2.1 (ct_fl b)))), none, none] [] S K2 := by
    intro K2 hK hc
    refine cx_218_85 _ _ _ _ ?_
    rw [i0]
    refine ⟨fun h0 => ⟨fun _ => ?_, fun h => absurd rfl h⟩, fun h0 => ?_⟩
    · unfold dt_le at k
      rw [if_neg (by omega), if_neg hc] at k
      rw [hK]
      exact k S cf_rfl
    · refine g100 _ _ _ hK ?_
      unfold dt_le
      rw [if_pos (by omega), dt_put_0 b wb.1 n (by omega)]
  have g61 : ∀ (K2 : cm_K), (K2 = K) → ¬ dt_at (dt_k a) = true → ¬ (ct_cn e.2.2.1 (ct_fl b) = 1 ∧ ct_cw e.2.2.1 b = 0) → cm_At (am_XX L xs) (d + 480) 218 61 [some (.ref 83), some (.int (Int32.ofNat i)), some (.int (Int32.ofNat j)), some (.int pb), some (.int (Int32.ofNat (ct_cn e.2.2.1 (ct_fl b)))), none, none] [] S K2 := by
    intro K2 hK n1 n2
    refine cx_218_61 _ _ _ _ ⟨cp_in j8 (by decide), ?_⟩
    rw [cp_cl (by omega)]
    rintro _ rfl
    rw [kj]
    refine ⟨fun h4 => ?_, fun h4 => g85 _ hK (fun hc => by
      rcases hc with hc | hc | hc
      · exact n1 hc
      · exact n2 hc
      · exact h4 hc.1)⟩
    refine cp_204D (by omega) wa.1 (by omega) ta (cp_r1 ?_)
    rw [show (6 : Int32) = Int32.ofNat 6 from rfl, cp_lt (by omega) (by omega), dk_sh0]
    exact ⟨fun h6 => g85 _ hK (fun hc => by
      rcases hc with hc | hc | hc
      · exact n1 hc
      · exact n2 hc
      · omega), fun h6 => g81 _ hK (Or.inr (Or.inr ⟨h4, by omega⟩))⟩
  refine cx_218_0 _ ⟨cp_in i8 (by decide), ?_⟩
  rw [cp_cl (by omega)]
  rintro _ rfl
  rw [hnn.2.2.1]
  refine ⟨cp_in i8 (by decide), ?_⟩
  rintro _ rfl
  rw [hnn.2.2.2.1]
  refine ⟨cp_in i8 (by decide), ?_⟩
  rintro _ rfl
  rw [vi]
  refine cp_205D (by omega) wb.1 tb (cp_r1 ⟨cp_in j8 (by decide), ?_⟩)
  rw [cp_cl (by omega)]
  rintro _ rfl
  rw [kj]
  refine cp_174 (cp_r1 ?_)
  rw [show (1 : Int32).toInt = 1 from rfl, show (3 : Int32).toInt = 3 from rfl]
  by_cases hat : dt_at (dt_k a) = true
  · rw [if_pos (dm_at_of.mpr hat)]
    refine ⟨fun h => absurd h (by decide), fun _ => ?_⟩
    exact g81 _ (by simp only [dk_sh0]) (Or.inl hat)
  rw [if_neg (fun hc => hat (dm_at_of.mp hc))]
  refine ⟨fun _ => ?_, fun h => absurd rfl h⟩
  rw [i1]
  refine ⟨fun h1 => ⟨cp_in i8 (by decide), ?_⟩, fun h1 => g61 _ (by simp only [dk_sh0]) hat (fun hc => h1 hc.1)⟩
  rintro _ rfl
  rw [vi]
  refine cp_206D (by omega) wb.1 tb (cp_r1 ?_)
  have hcwle := Nat.le_trans (ct_cw_le (x := e.2.2.1) b) hcnle
  have iw : Int32.ofNat (ct_cw e.2.2.1 b) = 0 ↔ ct_cw e.2.2.1 b = 0 := by rw [show (0 : Int32) = Int32.ofNat 0 from rfl, cp_inj (by omega) (by omega)]
  rw [iw]
  exact ⟨fun h => g81 _ (by simp only [dk_sh0]) (Or.inr (Or.inl ⟨h1, h⟩)), fun h => g61 _ (by simp only [dk_sh0]) hat (fun hc => h hc.2)⟩
/-- a MATCH -/
theorem cp_219 (h : dm_p S i e a b c fa fb fc pa pb pc sp nx rest n c0) (he : e.1 = 12) (hcap : dm_c (dt_ma n e a b c) rest) (hsa : ct_sz a ≤ 150) (hsb : ct_sz b ≤ 150) (hsc : ct_sz c ≤ 150) (k : dm_st (dt_ma n e a b c) S rest c0 K) :
    cm_At (am_XX L xs) (d + 480) 219 0 [some (.ref 83), some (.int (Int32.ofNat i)), none, none] [] S K := by
  have h' := h
  obtain ⟨hnn, ta, tb, tc, hhp, h20, hcs, hw, hc0⟩ := h
  obtain ⟨p1, p2, wa, wb, wc⟩ := dt_w_nd hw
  obtain ⟨la, lb, lc⟩ := ct_q3 hw.1 (Or.inl he)
  have ta' := ta
  obtain ⟨f, x, y, z, rfl⟩ := ct_cs wa.1 la
  obtain ⟨q1, q2, wx, wy, wz⟩ := dt_w_nd wa
  obtain ⟨j, fx, fy, fz, px, py, pz, rfl, hnj, tx, ty, tz, rfl⟩ := cl_t_nn ta
  have dj1 := cl_dj hhp
  have hhp2 := cl_hp_to ((j :: (fx ++ (fy ++ fz))) ++ (i :: (fb ++ (fc ++ rest)))) hhp (fun y => by simp only [List.count_append, List.count_cons, List.count_nil]; omega)
  have dj2 := cl_dj hhp2
  have i8 := hnn.1
  have j8 := hnj.1
  have hij : ¬ i = j := fun hc => dj1.1.1 (by simp [hc])
  obtain ⟨kj, nj, vj, wj⟩ := dm_nk hnj
  obtain ⟨ki, ni, vi, wi⟩ := dm_nk hnn
  have e20 : e.2.1 = 0 := p2.2.2.2 (by rw [he]; decide)
  unfold dt_ma at k hcap
  rw [show dt_k (ct_nd f x y z) = f.1 from rfl] at k hcap
  refine cx_219_0 _ ⟨cp_in i8 (by decide), ?_⟩
  rw [cp_cl (by omega)]
  rintro _ rfl
  rw [hnn.2.2.1]
  refine ⟨cp_in j8 (by decide), ?_⟩
  rw [cp_cl (by omega)]
  rintro _ rfl
  rw [kj]
  refine ⟨fun h10 => ⟨cp_in i8 (by decide), ?_⟩, fun h10 => ⟨cp_in j8 (by decide), ?_⟩⟩
  · rw [if_pos h10] at k
    rintro _ rfl
    rw [hnn.2.2.2.1]
    refine cp_194h (rest := i :: (fb ++ (fc ++ rest))) (by omega) wa.1 ta' hhp2 (fun S1 sp1 hp1 f1 => cp_r0 ⟨cp_in i8 (by decide), ?_⟩)
    rintro _ rfl
    have n1 := cl_nn_frr f1 hnn
    rw [n1.2.2.2.2]
    have tc1 := cl_t_frr wc.1 f1 tc
    have tb1 := cl_t_frr wb.1 f1 tb
    refine cp_194h (rest := i :: (fb ++ rest)) (by omega) wc.1 tc1 (cl_hp_to _ hp1 (fun y => by simp only [List.count_append, List.count_cons]; omega)) (fun S2 sp2 hp2 f2 => cp_r0 ?_)
    have tb2 := cl_t_frr wb.1 f2 tb1
    refine cp_215 hp2 (fun S3 sp3 hp3 f3 => cp_r0 ?_)
    have tb3 := cl_t_dp wb.1 f3 dj1.1.2.1 tb2
    obtain ⟨g, x2, y2, z2, hg⟩ := ct_cs wb.1 lb
    obtain ⟨m, hqm, hm8⟩ : ∃ m, pb = Int32.ofNat m ∧ m < 8192 := by
      rw [hg] at tb3
      obtain ⟨m, _, _, _, _, _, _, hq, hnm, _⟩ := cl_t_nn tb3
      exact ⟨m, hq, hnm.1⟩
    subst hqm
    refine k S3 m fb sp3 _ c0 tb3 hm8 hp3 (dm_20 f3 (decide_eq_false (by omega)) (dm_20 f2 (decide_eq_false (by omega)) (dm_20 f1 (decide_eq_false (by omega)) h20))) (cl_cs_f f3 (decide_eq_false (by omega)) (fun j => decide_eq_false (by omega)) (cl_cs_f f2 (decide_eq_false (by omega)) (fun j => decide_eq_false (by omega)) (cl_cs_f f1 (decide_eq_false (by omega)) (fun j => decide_eq_false (by omega)) hcs))) (Nat.le_refl _) (by omega) ?_
    exact cf_tr (cW_mp_fr f1) (cf_tr (cW_mp_fr f2) (cW_mp_dp dj1.1.2.2.2.2 dj1.1.2.2.2.1 f3))
  rw [if_neg h10] at k hcap
  rintro _ rfl
  refine ⟨fun h11 => ⟨cp_in i8 (by decide), ?_⟩, fun h11 => ⟨cp_in j8 (by decide), ?_⟩⟩
  · rw [if_pos h11] at k hcap
    obtain ⟨lx, ly, lz⟩ := ct_q2 wa.1 (Or.inr (Or.inr (Or.inr (Or.inr (Or.inr h11)))))
    subst lz
    obtain ⟨rfl, rfl⟩ := tz
    obtain ⟨hm, hcp⟩ := hcap _ rfl
    have hcp2 : 1 + (ct_sz x + (1 + (ct_sz y + (ct_sz c + 0)) + 0)) + 152 + rest.length ≤ 3392 := hcp
    have lenx := (cl_t_len x wx.1 _ _ tx).1
    have leny := (cl_t_len y wy.1 _ _ ty).1
    have lenc := (cl_t_len c wc.1 _ _ tc).1
    have sb0 := ct_sz_ne wb.1 lb
    rintro _ rfl
    rw [hnn.2.2.2.1]
    refine cp_194h (rest := i :: j :: (fx ++ (fy ++ (fc ++ rest)))) (by omega) wb.1 tb (cl_hp_to _ hhp (fun y => by simp only [List.count_append, List.count_cons, List.count_nil]; omega)) (fun S1 sp1 hp1 f1 => cp_r0 ?_)
    refine cp_193h hp1 (by simp only [List.length_cons, List.length_append]; omega) (fun S2 m sp2 nx2 hm1 hm48 hm8 hp2 f2 hfl => cp_r1 ⟨cp_in i8 (by decide), ?_⟩)
    simp only [List.mem_cons, List.mem_append, not_or] at hm1
    have f2m : cf_W (cW_mp (i :: j :: (fx ++ (fy ++ (fc ++ rest))))) S1 S2 := cW_mp_nd hm48 (by simp only [List.mem_cons, List.mem_append, not_or]; exact hm1) f2
    have n2 := cl_nn_mp f2m (by simp) (cl_nn_frr f1 hnn)
    have j2 := cl_nn_mp f2m (by simp) (cl_nn_frr f1 hnj)
    have tx2 := cl_t_mp wx.1 f2m (fun y hy => Or.inl (by simp [hy])) (cl_t_frr wx.1 f1 tx)
    have ty2 := cl_t_mp wy.1 f2m (fun y hy => Or.inl (by simp [hy])) (cl_t_frr wy.1 f1 ty)
    have tc2 := cl_t_mp wc.1 f2m (fun y hy => Or.inl (by simp [hy])) (cl_t_frr wc.1 f1 tc)
    have nm2 : cl_nn S2 m (6, 0, -1, -1) (-1) (-1) (-1) := ⟨hm8, by rw [hfl.1, hfl.2.1, hfl.2.2.2.2.2.1, hfl.2.2.2.2.2.2], hfl.2.2.1, hfl.2.2.2.1, hfl.2.2.2.2.1⟩
    rintro _ rfl
    rw [(dm_nk n2).2.2.2]
    refine ⟨cp_in j8 (by decide), ?_⟩
    rintro _ rfl
    rw [j2.2.2.2.1]
    refine ⟨cp_in i8 (by decide), ?_⟩
    rintro _ rfl
    rw [n2.2.2.2.2]
    refine cp_214 nm2 (fun S3 nm3 w3 => cp_r1 ⟨cp_in i8 (by decide), ?_⟩)
    have n3 := cl_nn_1 w3 (fun hc => hm1.1 hc.symm) n2
    have j3 := cl_nn_1 w3 (fun hc => hm1.2.1 hc.symm) j2
    have tx3 := cl_t_1 wx.1 w3 hm1.2.2.1 tx2
    have ty3 := cl_t_1 wy.1 w3 hm1.2.2.2.1 ty2
    have tc3 := cl_t_1 wc.1 w3 hm1.2.2.2.2.1 tc2
    rintro _ rfl
    rw [(dm_nk n3).2.2.1]
    refine ⟨cp_in j8 (by decide), ?_⟩
    rintro _ rfl
    rw [j3.2.2.1]
    refine cp_214 n3 (fun S4 n4 w4 => cp_r1 ?_)
    have ijx : ∀ {l : List Nat}, (∀ y, y ∈ l → y ∈ (j :: (fx ++ (fy ++ [])))) → ¬ i ∈ l := fun hl hc => dj1.1.1 (hl i hc)
    have nm4 := cl_nn_1 w4 hm1.1 nm3
    have j4 := cl_nn_1 w4 (fun hc => hij hc.symm) j3
    have tx4 := cl_t_1 wx.1 w4 (ijx (fun y hy => by simp [hy])) tx3
    have ty4 := cl_t_1 wy.1 w4 (ijx (fun y hy => by simp [hy])) ty3
    have tc4 := cl_t_1 wc.1 w4 dj1.1.2.2.1 tc3
    refine cp_215 (rest := m :: i :: (fx ++ (fy ++ (fc ++ rest)))) (cl_hp_to _ (cl_hp_1 w4 (cl_hp_1 w3 hp2)) (fun y => by simp only [List.count_append, List.count_cons]; omega)) (fun S5 sp5 hp5 w5 => cp_r0 ?_)
    have jr : ¬ j ∈ i :: (fb ++ (fc ++ rest)) := dj2.1.2.2.2.1
    have n5 := cl_nn_dp w5 hij n4
    have nm5 := cl_nn_dp w5 hm1.2.1 nm4
    have tx5 := cl_t_dp wx.1 w5 dj2.1.1 tx4
    have ty5 := cl_t_dp wy.1 w5 dj2.1.2.1 ty4
    have tc5 := cl_t_dp wc.1 w5 (fun hc => jr (by simp [hc])) tc4
    rw [e20] at n5
    refine k S5 i (i :: (fx ++ ((m :: (fy ++ (fc ++ []))) ++ []))) sp5 nx2 c0 (cl_nn_t n5 tx5 (cl_nn_t nm5 ty5 tc5 (cl_t_lf.mpr ⟨rfl, rfl⟩)) (cl_t_lf.mpr ⟨rfl, rfl⟩)) i8 (cl_hp_to _ hp5 (fun y => by simp only [List.count_append, List.count_cons, List.count_nil]; omega)) ?_ ?_ (Nat.le_refl _) (by omega) ?_
    · exact dm_20 w5 (decide_eq_false (by omega)) (dm_20 w4 (decide_eq_false (by omega)) (dm_20 w3 (decide_eq_false (by omega)) (dm_20 f2 (decide_eq_false (by omega)) (dm_20 f1 (decide_eq_false (by omega)) h20))))
    · exact cl_cs_f w5 (decide_eq_false (by omega)) (fun j => decide_eq_false (by omega)) (cl_cs_f w4 (decide_eq_false (by omega)) (fun j => decide_eq_false (by omega)) (cl_cs_f w3 (decide_eq_false (by omega)) (fun j => decide_eq_false (by omega)) (cl_cs_f f2 (decide_eq_false (by omega)) (fun j => decide_eq_false (by omega)) (cl_cs_f f1 (decide_eq_false (by omega)) (fun j => decide_eq_false (by omega)) hcs))))
    · exact cf_tr (cW_mp_fr f1) (cf_tr (cW_mp_mo (fun y hy => by simp [hy]) f2m) (cf_tr (cW_1mp hm48 hm1.2.2.2.2.2 w3) (cf_tr (cW_1mp dj1.1.2.2.2.2 dj1.1.2.2.2.1 w4) (cW_mp_dp dj2.1.2.2.2.2 (fun hc => jr (by simp [hc])) w5))))
  rw [if_neg h11] at k
  rintro _ rfl
  refine cp_212 (cp_r1 ?_)
  by_cases hlk : dt_lk f.1 = true
  · rw [if_pos hlk] at k
    rw [if_pos hlk]
    refine ⟨fun h => absurd h (by decide), fun _ => ?_⟩
    refine cp_213 h' la (fun S2 i2 fp2 sp2 nx2 c2 r1 r2 r3 r4 r5 r6 r7 r8 => cp_r1 ?_)
    exact k S2 i2 fp2 sp2 nx2 c2 r1 r2 r3 r4 r5 r6 r7 r8
  · rw [if_neg hlk] at k
    rw [if_neg hlk]
    exact ⟨fun _ => k S cf_rfl, fun h => absurd rfl h⟩
/-- a TEST -/
theorem cp_220 (h : dm_p S i e a b c fa fb fc pa pb pc sp nx rest n c0) (he : e.1 = 13) (hsb : ct_sz b ≤ 150) (hsc : ct_sz c ≤ 150) (k : dm_st (dt_te n e a b c) S rest c0 K) :
    cm_At (am_XX L xs) (d + 480) 220 0 [some (.ref 83), some (.int (Int32.ofNat i)), none, none] [] S K := by
  have h' := h
  obtain ⟨hnn, ta, tb, tc, hhp, h20, hcs, hw, hc0⟩ := h
  obtain ⟨p1, p2, wa, wb, wc⟩ := dt_w_nd hw
  obtain ⟨la, lb, lc⟩ := ct_q3 hw.1 (Or.inr he)
  have ta' := ta
  obtain ⟨f, x, y, z, rfl⟩ := ct_cs wa.1 la
  obtain ⟨q1, q2, wx, wy, wz⟩ := dt_w_nd wa
  obtain ⟨j, fx, fy, fz, px, py, pz, rfl, hnj, tx, ty, tz, rfl⟩ := cl_t_nn ta
  have dj1 := cl_dj hhp
  have hhp2 := cl_hp_to ((j :: (fx ++ (fy ++ fz))) ++ (i :: (fb ++ (fc ++ rest)))) hhp (fun y => by simp only [List.count_append, List.count_cons, List.count_nil]; omega)
  have i8 := hnn.1
  have j8 := hnj.1
  obtain ⟨kj, nj, vj, wj⟩ := dm_nk hnj
  unfold dt_te at k
  rw [show dt_k (ct_nd f x y z) = f.1 from rfl, show (dt_e (ct_nd f x y z)).2.1 = f.2.1 from rfl] at k
  refine cx_220_0 _ ⟨cp_in i8 (by decide), ?_⟩
  rw [cp_cl (by omega)]
  rintro _ rfl
  rw [hnn.2.2.1]
  refine ⟨cp_in j8 (by decide), ?_⟩
  rw [cp_cl (by omega)]
  rintro _ rfl
  rw [kj]
  refine ⟨fun h1 => ⟨cp_in j8 (by decide), ?_⟩, fun h1 => ⟨cp_in j8 (by decide), ?_⟩⟩
  · rw [if_pos h1] at k
    rintro _ rfl
    rw [nj, cu_lg]
    have hsz1 : ct_sz (ct_nd f x y z) = 1 := by
      obtain ⟨rfl, rfl, rfl⟩ := ct_q0 wa.1 (Or.inl h1)
      rfl
    -- one part is freed, then the node
    have fin : ∀ (t u : ct_T) (pt pu : Int32) (ft fu : List Nat), dt_w t → dt_w u → ¬ t = .leaf → ct_sz u ≤ 150 → ∀ (S1 : cm_S) (sp1 : List Nat) (K2 : cm_K), cl_t S1 t pt ft → cl_t S1 u pu fu → cl_hp S1 sp1 nx (fu ++ (i :: (ft ++ rest))) → ¬ i ∈ ft → S1.1 83 20 = Int32.ofNat n → cl_cs S1 c0 → cf_W (cW_mp rest) S S1 → dm_st (some (t, n)) S rest c0 K2 → cm_At (am_XX L xs) (d + 479) 194 0 [some (.ref 83), some (.int pu)] [] S1 (fun r S2 k2 => cm_r0 (cm_At (am_XX L xs) (d + 479) 215 0 [some (.ref 83), some (.int (Int32.ofNat i))] [] S2 (fun r S3 k3 => cm_r0 (cm_sh (cm_sh K2 k2) k3 (.inl (some (.int pt))) S3 0) (fun e => cm_sh K2 k2 (.inr e) S3 k3) r)) (fun e => K2 (.inr e) S2 k2) r) := by
      intro t u pt pu ft fu wt wu lt hsu S1 sp1 K2 tt tu hp1 hit g20 gcs f1 k2
      refine cp_194h (by omega) wu.1 tu hp1 (fun S2 sp2 hp2 f2 => cp_r0 ?_)
      refine cp_215 hp2 (fun S3 sp3 hp3 f3 => cp_r0 ?_)
      have t3 := cl_t_dp wt.1 f3 hit (cl_t_frr wt.1 f2 tt)
      obtain ⟨m, hqm, hm8⟩ : ∃ m, pt = Int32.ofNat m ∧ m < 8192 := by
        obtain ⟨g, x2, y2, z2, hg⟩ := ct_cs wt.1 lt
        rw [hg] at t3
        obtain ⟨m, _, _, _, _, _, _, hq, hnm, _⟩ := cl_t_nn t3
        exact ⟨m, hq, hnm.1⟩
      subst hqm
      exact k2 S3 m ft sp3 _ c0 t3 hm8 hp3 (dm_20 f3 (decide_eq_false (by omega)) (dm_20 f2 (decide_eq_false (by omega)) g20)) (cl_cs_f f3 (decide_eq_false (by omega)) (fun j => decide_eq_false (by omega)) (cl_cs_f f2 (decide_eq_false (by omega)) (fun j => decide_eq_false (by omega)) gcs)) (Nat.le_refl _) (by omega) (cf_tr f1 (cf_tr (cW_mp_fr f2) (cW_mp_dp dj1.1.2.2.2.2 dj1.1.2.2.2.1 f3)))
    refine ⟨fun h0 => ⟨cp_in i8 (by decide), ?_⟩, fun h0 => ⟨cp_in i8 (by decide), ?_⟩⟩
    · rw [if_pos h0] at k
      rintro _ rfl
      rw [hnn.2.2.2.2]
      refine cp_194h (rest := i :: (fb ++ (fc ++ rest))) (by omega) wa.1 ta' hhp2 (fun S1 sp1 hp1 f1 => cp_r0 ⟨cp_in j8 (by decide), ?_⟩)
      rintro _ rfl
      rw [(f1 93 j (decide_eq_false (by omega))).2, nj, cu_lg]
      refine ⟨fun _ => ⟨cp_in i8 (by decide), ?_⟩, fun h => absurd h0 h⟩
      rintro _ rfl
      rw [(cl_nn_frr f1 hnn).2.2.2.1]
      exact fin c b pc pb fc fb wc wb lc hsb S1 sp1 _ (cl_t_frr wc.1 f1 tc) (cl_t_frr wb.1 f1 tb) (cl_hp_to _ hp1 (fun y => by simp only [List.count_append, List.count_cons]; omega)) dj1.1.2.2.1 (dm_20 f1 (decide_eq_false (by omega)) h20) (cl_cs_f f1 (decide_eq_false (by omega)) (fun j => decide_eq_false (by omega)) hcs) (cW_mp_fr f1) (fun S2 i2 fp2 sp2 nx2 c2 r1 r2 r3 r4 r5 r6 r7 r8 => k S2 i2 fp2 sp2 nx2 c2 r1 r2 r3 r4 r5 r6 r7 r8)
    · rw [if_neg h0] at k
      rintro _ rfl
      rw [hnn.2.2.2.1]
      refine cp_194h (rest := i :: (fb ++ (fc ++ rest))) (by omega) wa.1 ta' hhp2 (fun S1 sp1 hp1 f1 => cp_r0 ⟨cp_in j8 (by decide), ?_⟩)
      rintro _ rfl
      rw [(f1 93 j (decide_eq_false (by omega))).2, nj, cu_lg]
      refine ⟨fun h => absurd h h0, fun _ => ⟨cp_in i8 (by decide), ?_⟩⟩
      rintro _ rfl
      rw [(cl_nn_frr f1 hnn).2.2.2.2]
      exact fin b c pb pc fb fc wb wc lb hsc S1 sp1 _ (cl_t_frr wb.1 f1 tb) (cl_t_frr wc.1 f1 tc) (cl_hp_to _ hp1 (fun y => by simp only [List.count_append, List.count_cons]; omega)) dj1.1.2.1 (dm_20 f1 (decide_eq_false (by omega)) h20) (cl_cs_f f1 (decide_eq_false (by omega)) (fun j => decide_eq_false (by omega)) hcs) (cW_mp_fr f1) (fun S2 i2 fp2 sp2 nx2 c2 r1 r2 r3 r4 r5 r6 r7 r8 => k S2 i2 fp2 sp2 nx2 c2 r1 r2 r3 r4 r5 r6 r7 r8)
  rw [if_neg h1] at k
  rintro _ rfl
  refine cp_212 (cp_r1 ?_)
  by_cases hlk : dt_lk f.1 = true
  · rw [if_pos hlk] at k
    rw [if_pos hlk]
    refine ⟨fun h => absurd h (by decide), fun _ => ?_⟩
    refine cp_213 h' la (fun S2 i2 fp2 sp2 nx2 c2 r1 r2 r3 r4 r5 r6 r7 r8 => cp_r1 ?_)
    exact k S2 i2 fp2 sp2 nx2 c2 r1 r2 r3 r4 r5 r6 r7 r8
  · rw [if_neg hlk] at k
    rw [if_neg hlk]
    exact ⟨fun _ => k S cf_rfl, fun h => absurd rfl h⟩
end CPa12
