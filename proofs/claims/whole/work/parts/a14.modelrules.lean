/-! ## a14 the model's steps: rules, forced lets, all of them -/
section CPa14
variable {L : Nat} {xs : Nat → Int32} {d : Nat} {S : cm_S} {K : cm_K} {i nx n c0 : Nat} {e : ct_D} {a b c : ct_T} {fa fb fc sp rest : List Nat} {pa pb pc : Int32}
/-- the first rule that fits -/
theorem cp_216l {R : List (Int32 × Int32 × Int32 × Int32)} {p : Int32} {j m o : Nat} {f g h : ct_D} {pa' pb' pc' qb qc ra rb rc pe' pf' : Int32} (hR : cl_r S R) (h33 : S.1 83 33 = p) (hi : cl_nn S i e pe' (Int32.ofNat m) pf') (hj : cl_nn S j f pa' pb' pc') (hm : cl_nn S m g (Int32.ofNat o) qb qc) (ho : cl_nn S o h ra rb rc) :
    ∀ (r : List (Int32 × Int32 × Int32 × Int32)) (k : Nat), (∀ t u, r[t]? = some u → R[k + t]? = some u) → k + r.length = R.length →
    (dt_rf p f.2.1 h.2.1 r = none → K (.inl (some (.int (-1)))) S 0) → (∀ t u, R[t]? = some u → dt_rf p f.2.1 h.2.1 r = some u.2.2.2 → K (.inl (some (.int (Int32.ofNat t)))) S 0) →
    cm_At (am_XX L xs) (d + 1) 216 61 [some (.ref 83), some (.int (Int32.ofNat i)), some (.int (Int32.ofNat j)), some (.int 1), some (.int (Int32.ofNat k))] [] S K
  | [], k, hi2, hl, k1, k2 => by
    rw [List.length_nil] at hl
    have h10 := hR.1
    refine cx_216_61 _ _ _ _ ?_
    rintro _ rfl
    rw [hR.2.1, cp_lt (by omega) (by omega)]
    exact ⟨fun h => by omega, fun _ => k1 rfl⟩
  | u :: r, k, hi2, hl, k1, k2 => by
    rw [List.length_cons] at hl
    have h10 := hR.1
    have hu : R[k]? = some u := hi2 0 u rfl
    obtain ⟨e1, e2, e3, e4⟩ := hR.2.2 k u hu
    have i8 := hi.1
    have j8 := hj.1
    have m8 := hm.1
    have o8 := ho.1
    have next : ¬ (u.1 = p ∧ u.2.1.toInt64 = f.2.1 ∧ u.2.2.1.toInt64 = h.2.1) → cm_At (am_XX L xs) (d + 1) 216 61 [some (.ref 83), some (.int (Int32.ofNat i)), some (.int (Int32.ofNat j)), some (.int 1), some (.int (Int32.ofNat k + 1))] [] S K := fun hno => by
      unfold dt_rf at k1 k2
      rw [if_neg hno] at k1 k2
      rw [show Int32.ofNat k + 1 = Int32.ofNat (k + 1) from cp_ad (b := 1)]
      refine cp_216l hR h33 hi hj hm ho r (k + 1) (fun t w ht => ?_) (by omega) k1 k2
      have := hi2 (t + 1) w ht
      rw [show k + 1 + t = k + (t + 1) by omega]
      exact this
    refine cx_216_61 _ _ _ _ ?_
    rintro _ rfl
    rw [hR.2.1, cp_lt (by omega) (by omega)]
    refine ⟨fun _ => ⟨fun h => absurd h (by decide), fun _ => ⟨cp_in (by omega) (by decide), ?_⟩⟩, fun h => absurd (by omega) h⟩
    rw [cp_cl (by omega)]
    rintro _ rfl
    rintro _ rfl
    rw [e1, h33]
    refine ⟨fun hp => ⟨cp_in (by omega) (by decide), ?_⟩, fun hp => next (fun hc => hp hc.1)⟩
    rintro _ rfl
    rw [e2]
    refine ⟨cp_in j8 (by decide), ?_⟩
    rw [cp_cl (by omega)]
    rintro _ rfl
    rw [(dm_nk hj).2.1, cu_lg]
    refine ⟨fun hf => ⟨cp_in (by omega) (by decide), ?_⟩, fun hf => next (fun hc => hf hc.2.1)⟩
    rintro _ rfl
    rw [e3]
    refine ⟨cp_in i8 (by decide), ?_⟩
    rw [cp_cl (by omega)]
    rintro _ rfl
    rw [hi.2.2.2.1]
    refine ⟨cp_in m8 (by decide), ?_⟩
    rw [cp_cl (by omega)]
    rintro _ rfl
    rw [hm.2.2.1]
    refine ⟨cp_in o8 (by decide), ?_⟩
    rw [cp_cl (by omega)]
    rintro _ rfl
    rw [(dm_nk ho).2.1, cu_lg]
    refine ⟨fun hg => ?_, fun hg => next (fun hc => hg hc.2.2)⟩
    refine k2 k u hu ?_
    unfold dt_rf
    rw [if_pos ⟨hp, hf, hg⟩]
/-- none fits where there is nothing to look at -/
theorem cp_216n {R : List (Int32 × Int32 × Int32 × Int32)} {j : Int32} (hR : cl_r S R) (k : K (.inl (some (.int (-1)))) S 0) :
    cm_At (am_XX L xs) (d + 1) 216 61 [some (.ref 83), some (.int (Int32.ofNat i)), some (.int j), some (.int 0), some (.int 0)] [] S K := by
  refine cx_216_61 _ _ _ _ ?_
  rintro _ rfl
  exact ⟨fun _ => ⟨fun _ => k, fun h => absurd rfl h⟩, fun _ => k⟩
/-- a rule used -/
theorem cp_228 {R : List (Int32 × Int32 × Int32 × Int32)} {p : Int32} (hR : cl_r S R) (h33 : S.1 83 33 = p) (h : dm_p S i e a b c fa fb fc pa pb pc sp nx rest n c0) (k : dm_st (dt_ru p R n e a b) S rest c0 K) :
    cm_At (am_XX L xs) (d + 480) 228 0 [some (.ref 83), some (.int (Int32.ofNat i)), none, none] [] S K := by
  obtain ⟨hnn, ta, tb, tc, hhp, h20, hcs, hw, hc0⟩ := h
  obtain ⟨p1, p2, wa, wb, wc⟩ := dt_w_nd hw
  have i8 := hnn.1
  have dj1 := cl_dj hhp
  unfold dt_ru at k
  have g20n : ∀ (K2 : cm_K), (K2 = K) → K (.inl (some (.int (-1)))) S 0 → cm_At (am_XX L xs) (d + 480) 228 20 [some (.ref 83), some (.int (Int32.ofNat i)), some (.int (-1)), none] [] S K2 := fun K2 hK hk => by
    rw [hK]
    exact cz_228_20 _ _ ⟨fun _ => hk, fun h => absurd rfl h⟩
  refine cz_228_0 _ ⟨cp_in i8 (by decide), ?_⟩
  rw [cp_cl (by omega)]
  rintro _ rfl
  rw [(dm_nk hnn).1]
  refine ⟨fun h5 => ?_, fun h5 => ?_⟩
  rotate_left
  · rw [if_neg (fun hc => h5 hc.1)] at k
    exact g20n K rfl (k S cf_rfl)
  obtain ⟨la, lb, lc⟩ := ct_q2 hw.1 (Or.inl h5)
  subst lc
  obtain ⟨rfl, rfl⟩ := tc
  obtain ⟨f, x, y, z, rfl⟩ := ct_cs wa.1 la
  obtain ⟨g, x2, y2, z2, rfl⟩ := ct_cs wb.1 lb
  have q1 := (dt_w_nd wa).1
  obtain ⟨_, _, wx2, wy2, wz2⟩ := dt_w_nd wb
  obtain ⟨j, fx, fy, fz, px, py, pz, rfl, hnj, tx, ty, tz, rfl⟩ := cl_t_nn ta
  obtain ⟨m, gx, gy, gz, qx, qy, qz, rfl, hnm, ux, uy, uz, rfl⟩ := cl_t_nn tb
  have j8 := hnj.1
  have m8 := hnm.1
  rw [show dt_k (ct_nd f x y z) = f.1 from rfl, show dt_k (ct_nd g x2 y2 z2) = g.1 from rfl] at k
  refine cx_216_0 _ ⟨cp_in i8 (by decide), ?_⟩
  rw [cp_cl (by omega)]
  rintro _ rfl
  rw [hnn.2.2.1]
  refine ⟨cp_in j8 (by decide), ?_⟩
  rw [cp_cl (by omega)]
  rintro _ rfl
  rw [(dm_nk hnj).1]
  refine ⟨fun h3 => ⟨cp_in i8 (by decide), ?_⟩, fun h3 => ?_⟩
  rotate_left
  · rw [if_neg (fun hc => h3 hc.2.1)] at k
    exact cp_216n hR (cp_r1 (g20n _ dk_sh0 (k S cf_rfl)))
  rintro _ rfl
  rw [hnn.2.2.2.1]
  refine ⟨cp_in m8 (by decide), ?_⟩
  rw [cp_cl (by omega)]
  rintro _ rfl
  rw [(dm_nk hnm).1]
  refine ⟨fun h5b => ⟨cp_in i8 (by decide), ?_⟩, fun h5b => ?_⟩
  rotate_left
  · rw [if_neg (fun hc => h5b hc.2.2.1)] at k
    exact cp_216n hR (cp_r1 (g20n _ dk_sh0 (k S cf_rfl)))
  obtain ⟨lx2, ly2, lz2⟩ := ct_q2 wb.1 (Or.inl h5b)
  subst lz2
  obtain ⟨rfl, rfl⟩ := uz
  have ux' := ux
  obtain ⟨h, x3, y3, z3, rfl⟩ := ct_cs wx2.1 lx2
  obtain ⟨o, ox, oy, oz, rx, ry, rz, rfl, hno, vx, vy, vz, rfl⟩ := cl_t_nn ux
  have o8 := hno.1
  rw [show dt_k (dt_a (ct_nd g (ct_nd h x3 y3 z3) y2 .leaf)) = h.1 from rfl] at k
  rintro _ rfl
  refine ⟨cp_in m8 (by decide), ?_⟩
  rw [cp_cl (by omega)]
  rintro _ rfl
  rw [hnm.2.2.1]
  refine ⟨cp_in o8 (by decide), ?_⟩
  rw [cp_cl (by omega)]
  rintro _ rfl
  rw [(dm_nk hno).1]
  refine ⟨fun h3b => ?_, fun h3b => ?_⟩
  rotate_left
  · rw [if_neg (fun hc => h3b hc.2.2.2)] at k
    exact cp_216n hR (cp_r1 (g20n _ dk_sh0 (k S cf_rfl)))
  rw [if_pos ⟨h5, h3, h5b, h3b⟩] at k
  change dm_st (match dt_rf p f.2.1 h.2.1 R with
    | some r => some (ct_nd e (ct_nd (3, r.toInt64, -1, -1) .leaf .leaf .leaf) y2 .leaf, n)
    | none => none) S rest c0 K at k
  refine cp_216l (p := p) hR h33 hnn hnj hnm hno R 0 (fun t u ht => by rw [Nat.zero_add]; exact ht) (by omega) (fun hno => cp_r1 ?_) (fun t u ht hsome => cp_r1 ?_)
  · rw [hno] at k
    exact g20n _ dk_sh0 (k S cf_rfl)
  rw [hsome] at k
  rw [dk_sh0]
  have h10 := hR.1
  have ht10 : t < R.length := (List.getElem?_eq_some_iff.mp ht).1
  obtain ⟨lx, ly, lz⟩ := ct_q0 wa.1 (Or.inr (Or.inr (Or.inl h3)))
  subst lx; subst ly; subst lz
  obtain ⟨rfl, rfl⟩ := tx
  obtain ⟨rfl, rfl⟩ := ty
  obtain ⟨rfl, rfl⟩ := tz
  have hfn := q1.2.2 (by rw [h3]; decide)
  have hsz1 : ct_sz (ct_nd h x3 y3 z3) = 1 := by
    obtain ⟨rfl, rfl, rfl⟩ := ct_q0 wx2.1 (Or.inr (Or.inr (Or.inl h3b)))
    rfl
  have hhp2 := cl_hp_to ((m :: ((o :: (ox ++ (oy ++ oz))) ++ (gy ++ []))) ++ (i :: j :: rest)) hhp (fun y => by simp only [List.count_append, List.count_cons, List.count_nil]; omega)
  have dj2 := cl_dj hhp2
  have hmr := dj2.1.2.2.2.1
  simp only [List.mem_cons, not_or] at hmr
  have hhp3 := cl_hp_to ((j :: ([] ++ ([] ++ []))) ++ (i :: ((m :: ((o :: (ox ++ (oy ++ oz))) ++ (gy ++ []))) ++ rest))) hhp (fun y => by simp only [List.count_append, List.count_cons, List.count_nil]; omega)
  have dj3 := cl_dj hhp3
  have hjr := dj3.1.2.2.2.1
  simp only [List.mem_cons, List.mem_append, not_or] at hjr
  refine cz_228_20 _ _ ⟨fun h => absurd h (cp_m1 (by omega)), fun _ => ⟨cp_in i8 (by decide), ?_⟩⟩
  rw [cp_cl (by omega)]
  rintro _ rfl
  rw [hnn.2.2.2.1]
  refine ⟨cp_in i8 (by decide), ?_⟩
  rintro _ rfl
  rw [hnn.2.2.1]
  refine ⟨cp_in (by omega) (by decide), ?_⟩
  rw [cp_cl (by omega)]
  rintro _ rfl
  rw [(hR.2.2 t u ht).2.2.2]
  refine ⟨cp_in j8 (by decide), ?_⟩
  rw [cp_cl (by omega)]
  rintro _ rfl
  have w4 : cf_W (cW_1 j) S (cm_wJ S 93 j u.2.2.2.toInt64) := cW_1J (by omega) (by omega)
  have j4 := cl_nn_n (q := u.2.2.2.toInt64) hnj
  have n4 := cl_nn_1 w4 (fun hc => hjr.1 hc.symm) hnn
  have m4 := cl_nn_1 w4 (fun hc => hjr.2.1.1 hc.symm) hnm
  have ux4 := cl_t_1 wx2.1 w4 (fun hc => by
    rcases List.mem_cons.mp hc with hc | hc
    · exact hjr.2.1.2.1.1 hc
    · simp only [List.mem_append] at hc
      rcases hc with hc | hc | hc
      · exact hjr.2.1.2.1.2.1 hc
      · exact hjr.2.1.2.1.2.2.1 hc
      · exact hjr.2.1.2.1.2.2.2 hc) ux'
  have uy4 := cl_t_1 wy2.1 w4 hjr.2.1.2.2.1 uy
  have hp4 := cl_hp_1 w4 hhp
  have f4 : cf_W (cW_mp rest) S (cm_wJ S 93 j u.2.2.2.toInt64) := cW_1mp dj3.1.2.2.2.2 hjr.2.2 w4
  have g4 := dm_20 w4 (decide_eq_false (by omega)) h20
  have s4 := cl_cs_f w4 (decide_eq_false (by omega)) (fun j => decide_eq_false (by omega)) hcs
  generalize cm_wJ S 93 j u.2.2.2.toInt64 = S4 at j4 n4 m4 ux4 uy4 hp4 f4 g4 s4 ⊢
  refine ⟨cp_in m8 (by decide), ?_⟩
  rw [cp_cl (by omega)]
  rintro _ rfl
  rw [m4.2.2.2.1]
  refine ⟨cp_in i8 (by decide), ?_⟩
  rintro _ rfl
  have w6 : cf_W (cW_1 i) S4 (cm_wI S4 95 i qy) := cW_1I (by omega) (by omega)
  have n6 := cl_nn_b (q := qy) n4
  have m6 := cl_nn_1 w6 hmr.1 m4
  have j6 := cl_nn_1 w6 hjr.1 j4
  have ux6 := cl_t_1 wx2.1 w6 (fun hc => dj1.1.2.1 (by
    rw [List.mem_cons, List.mem_append]
    exact Or.inr (Or.inl hc))) ux4
  have uy6 := cl_t_1 wy2.1 w6 (fun hc => dj1.1.2.1 (by simp [hc])) uy4
  have hp6 := cl_hp_1 w6 hp4
  have f6 := cf_tr f4 (cW_1mp dj1.1.2.2.2.2 dj1.1.2.2.2.1 w6)
  have g6 := dm_20 w6 (decide_eq_false (by omega)) g4
  have s6 := cl_cs_f w6 (decide_eq_false (by omega)) (fun j => decide_eq_false (by omega)) s4
  generalize cm_wI S4 95 i qy = S6 at n6 m6 j6 ux6 uy6 hp6 f6 g6 s6 ⊢
  refine ⟨cp_in m8 (by decide), ?_⟩
  rintro _ rfl
  rw [m6.2.2.1]
  refine cp_194h (rest := m :: (i :: (j :: (gy ++ rest)))) (by omega) wx2.1 ux6 (cl_hp_to _ hp6 (fun y => by simp only [List.count_append, List.count_cons, List.count_nil]; omega)) (fun S7 sp7 hp7 f7 => cp_r0 ?_)
  refine cp_215 hp7 (fun S8 sp8 hp8 f8 => cp_r0 ?_)
  have n8 := cl_nn_dp f8 (fun hc => hmr.1 hc.symm) (cl_nn_frr f7 n6)
  have j8' := cl_nn_dp f8 (fun hc => hmr.2.1 hc.symm) (cl_nn_frr f7 j6)
  have uy8 := cl_t_dp wy2.1 f8 (fun hc => dj2.1.2.1 (by simp [hc])) (cl_t_frr wy2.1 f7 uy6)
  rw [h3, show f.2.2 = (f.2.2.1, f.2.2.2) from rfl, hfn.1, hfn.2] at j8'
  refine k S8 i (i :: ((j :: ([] ++ ([] ++ []))) ++ (gy ++ []))) sp8 nx c0 (cl_nn_t n8 (cl_nn_t j8' (cl_t_lf.mpr ⟨rfl, rfl⟩) (cl_t_lf.mpr ⟨rfl, rfl⟩) (cl_t_lf.mpr ⟨rfl, rfl⟩)) uy8 (cl_t_lf.mpr ⟨rfl, rfl⟩)) i8 (cl_hp_to _ hp8 (fun y => by simp only [List.count_append, List.count_cons, List.count_nil]; omega)) ?_ ?_ (Nat.le_refl _) (by omega) ?_
  · exact dm_20 f8 (decide_eq_false (by omega)) (dm_20 f7 (decide_eq_false (by omega)) g6)
  · exact cl_cs_f f8 (decide_eq_false (by omega)) (fun j => decide_eq_false (by omega)) (cl_cs_f f7 (decide_eq_false (by omega)) (fun j => decide_eq_false (by omega)) s6)
  · exact cf_tr f6 (cf_tr (cW_mp_fr f7) (cW_mp_dp dj2.1.2.2.2.2 hmr.2.2 f8))
/-- a LET that is needed -/
theorem cp_227 {T V : Nat → ct_T} {Q : Nat → Nat → Bool} (hQ : ∀ g k, Q g k = true → k < cu_M V g) (hq : cl_q S T V Q) (h : dm_p S i e a b c fa fb fc pa pb pc sp nx rest n c0) (hbd : dt_bd 150 (ct_nd e a b c)) (hol : cu_ol b) (hsb : ct_sz b ≤ 150) (k : dm_st (dt_sr (cu_nq Q (cu_M V)) n e a b) S rest c0 K) :
    cm_At (am_XX L xs) (d + 480) 227 0 [some (.ref 83), some (.int (Int32.ofNat i))] [] S K := by
  obtain ⟨hnn, ta, tb, tc, hhp, h20, hcs, hw, hc0⟩ := h
  obtain ⟨p1, p2, wa, wb, wc⟩ := dt_w_nd hw
  have i8 := hnn.1
  have dj1 := cl_dj hhp
  unfold dt_sr at k
  refine cx_227_0 _ ⟨cp_in i8 (by decide), ?_⟩
  rw [cp_cl (by omega)]
  rintro _ rfl
  rw [(dm_nk hnn).1]
  refine ⟨fun h6 => ⟨cp_in i8 (by decide), ?_⟩, fun h6 => ?_⟩
  rotate_left
  · rw [if_neg (fun hc => h6 hc.1)] at k
    exact k S cf_rfl
  obtain ⟨la, lb, lc⟩ := ct_q2 hw.1 (Or.inr (Or.inl h6))
  subst lc
  obtain ⟨rfl, rfl⟩ := tc
  have hcx : 0 < dt_ct e.2.2.1 (ct_nd e a b .leaf) := by
    rw [dt_ct_nd]
    have : 0 < dt_oc e.2.2.1 e := List.count_pos_iff.mpr (ct_ob_v (Or.inr (Or.inl h6)))
    omega
  have hxb := hbd.2 _ hcx
  obtain ⟨v, hve, hv2, hv3⟩ := cp_of hxb.1
  rintro _ rfl
  rw [hnn.2.2.2.1]
  have hned := cp_241 (L := L) (xs := xs) (T := T) hQ 150 b wb.1 hsb
  refine hned (d + 479) S pb fb 0 _ (by omega) tb lb wb.2.2 hol wb.2.1 hq (by omega) (fun S1 f1 s1 sb1 => cp_r0 ⟨cp_in i8 (by decide), ?_⟩)
  have f1m : cf_W cW_mn S S1 := cf_mono f1 (fun b j h => decide_eq_true (by have h := of_decide_eq_true h; omega))
  have n1 : cl_nn S1 i e pa pb (-1) := cl_nn_cf f1m (fun b q1 q2 => decide_eq_false (by omega)) hnn
  rintro _ rfl
  rw [(dm_nk n1).2.2.1, hve]
  refine cp_238 (l := 0) (v := v) (by omega) (by omega) sb1 (cp_r1 ?_)
  rw [hve, cp_cl (by omega)] at k
  by_cases hneed : cu_nq Q (cu_M V) b v = true
  · rw [if_pos ⟨h6, hneed⟩] at k
    rw [if_pos hneed]
    refine ⟨fun h => absurd h (by decide), fun _ => ⟨cp_in i8 (by decide), ?_⟩⟩
    rintro _ rfl
    have w2 : cf_W (cW_1 i) S1 (cm_wI S1 92 i 8) := cW_1I (by omega) (by omega)
    have n2 := cl_nn_k (q := 8) n1
    have e20 : e.2.1 = 0 := p2.2.2.2 (by rw [h6]; decide)
    have ew : e.2.2.2 = -1 := (p1.1 (Or.inr (Or.inr (Or.inl h6)))).2
    rw [show e.2 = (e.2.1, e.2.2.1, e.2.2.2) from rfl, e20, ew, hve] at n2
    have nf : ∀ (t : ct_T) (p : Int32) (fp : List Nat), ct_wf t → cl_t S t p fp → cl_t S1 t p fp := fun t p fp wt ht => cl_t_cf f1m t wt p fp (fun b x q1 q2 _ => decide_eq_false (by omega)) ht
    refine k _ i (i :: (fa ++ (fb ++ []))) sp nx c0 (cl_nn_t n2 (cl_t_1 wa.1 w2 dj1.1.1 (nf a pa fa wa.1 ta)) (cl_t_1 wb.1 w2 dj1.1.2.1 (nf b pb fb wb.1 tb)) (cl_t_lf.mpr ⟨rfl, rfl⟩)) i8 (cl_hp_1 w2 (cl_hp_cf f1m (fun j => decide_eq_false (by omega)) (decide_eq_false (by omega)) (decide_eq_false (by omega)) hhp)) (dm_20 w2 (decide_eq_false (by omega)) (dm_20 f1m (decide_eq_false (by omega)) h20)) (cl_cs_f w2 (decide_eq_false (by omega)) (fun j => decide_eq_false (by omega)) (cl_cs_f f1m (decide_eq_false (by omega)) (fun j => decide_eq_false (by omega)) hcs)) (Nat.le_refl _) (by omega) (cf_tr (cf_mono f1m (fun b j h => decide_eq_true (by have h := of_decide_eq_true h; omega))) (cW_1mp dj1.1.2.2.2.2 dj1.1.2.2.2.1 w2))
  · rw [if_neg (fun hc => hneed hc.2)] at k
    rw [if_neg hneed]
    exact ⟨fun _ => k S1 f1m, fun h => absurd rfl h⟩
/-- what a pass does with a node -/
theorem cp_229 {T U : Nat → ct_T} {R : List (Int32 × Int32 × Int32 × Int32)} {Q : Nat → Nat → Bool} {G : ct_G} {ps : Nat} (hps8 : ps < 8) (hU : ct_ds U) (hdU : dm_d S U) (hR : cl_r S R) (h33 : S.1 83 33 = Int32.ofNat ps - 5) (hQ : ∀ g k, Q g k = true → k < cu_M (fun g => ct_pre (U g)) g) (hq : cl_q S T (fun g => ct_pre (U g)) Q)
    (h : dm_p S i e a b c fa fb fc pa pb pc sp nx rest n c0) (hbd : dt_bd n (ct_nd e a b c)) (hgc : dt_gc n G (ct_nd e a b c)) (hlx : ct_lx G (ct_nd e a b c)) (hst : ps = 4 → n ≤ 150 ∧ cu_ol b) (hcap : dm_c (dt_dn (dt_U (fun g => ct_pre (U g))) R (cu_nq Q (cu_M (fun g => ct_pre (U g)))) ps n e a b c) rest) (hn : n ≤ 32768) (hsa : ct_sz a ≤ 150) (hsb : ct_sz b ≤ 150) (hsc : ct_sz c ≤ 150)
    (k : dm_st (dt_dn (dt_U (fun g => ct_pre (U g))) R (cu_nq Q (cu_M (fun g => ct_pre (U g)))) ps n e a b c) S rest c0 K) :
    cm_At (am_XX L xs) (d + 482) 229 0 [some (.ref 83), some (.int (Int32.ofNat ps)), some (.int (Int32.ofNat i))] [] S K := by
  have out : ∀ {r : Option (ct_T × Nat)} {K2 : cm_K}, dm_st r S rest c0 K2 → dm_st r S rest c0 (fun r S2 k2 => cm_r1 (fun x => cm_sh K2 k2 (.inl (some (.int x))) S2 0) (fun e => K2 (.inr e) S2 k2) r) := fun {r K2} h => by
    cases r with
    | none => exact fun S2 f2 => h S2 f2
    | some q => exact fun S2 i2 fp2 sp2 nx2 c2 r1 r2 r3 r4 r5 r6 r7 r8 => h S2 i2 fp2 sp2 nx2 c2 r1 r2 r3 r4 r5 r6 r7 r8
  unfold dt_dn at k hcap
  have pe : ∀ m : Nat, m < 8 → (Int32.ofNat ps = Int32.ofNat m ↔ ps = m) := fun m hm => cp_inj (by omega) (by omega)
  refine cx_229_0 _ _ ?_
  rw [show (Int32.ofNat ps = 0) = (Int32.ofNat ps = Int32.ofNat 0) from rfl, pe 0 (by omega), show (Int32.ofNat ps = 1) = (Int32.ofNat ps = Int32.ofNat 1) from rfl, pe 1 (by omega), show (Int32.ofNat ps = 2) = (Int32.ofNat ps = Int32.ofNat 2) from rfl, pe 2 (by omega), show (Int32.ofNat ps = 3) = (Int32.ofNat ps = Int32.ofNat 3) from rfl, pe 3 (by omega), show (Int32.ofNat ps = 4) = (Int32.ofNat ps = Int32.ofNat 4) from rfl, pe 4 (by omega)]
  refine ⟨fun h0 => ?_, fun h0 => ?_⟩
  · rw [if_pos h0] at k hcap
    exact cp_223 hU hdU h hbd hgc hlx hcap hn hsa hsb hsc (out k)
  rw [if_neg h0] at k
  refine ⟨fun h1 => ?_, fun h1 => ?_⟩
  · rw [if_pos h1] at k
    exact cp_224 (d := d + 1) h hsb (out k)
  rw [if_neg h1] at k
  refine ⟨fun h2 => ?_, fun h2 => ?_⟩
  · rw [if_pos h2] at k
    exact cp_225 (d := d + 1) h hsa (out k)
  rw [if_neg h2] at k
  refine ⟨fun h3 => ?_, fun h3 => ?_⟩
  · rw [if_pos h3] at k
    exact cp_226 (d := d + 1) h (out k)
  rw [if_neg h3] at k
  refine ⟨fun h4 => ?_, fun h4 => ?_⟩
  · rw [if_pos h4] at k
    obtain ⟨hn150, hol⟩ := hst h4
    exact cp_227 (d := d + 1) hQ hq h (dt_bd_mo hn150 hbd) hol hsb (out k)
  rw [if_neg h4] at k
  refine cp_228 (d := d + 1) hR ?_ h (out k)
  rw [h33, show (5 : Int32) = Int32.ofNat 5 from rfl, cp_sb (by omega)]
end CPa14
