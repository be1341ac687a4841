/-! ## a26 the run machine: lets and pairs evaluated; every node -/
theorem de_aA_cf {A : cm_S} {nc q : Nat} {e : ct_D} {s : Int32} : cf_W (fun b j => decide (65 ≤ b ∧ b ≤ 68 ∧ j = nc ∨ b = 64 ∧ j = 4)) A (de_aA A nc e q s) := by
  unfold de_aA
  split
  · exact cf_rfl
  · exact de_mk_cf
theorem me_aS_cf {S : cm_S} {nc q : Nat} {e : ct_D} {s : Int32} : cf_W (fun b j => decide (114 ≤ b ∧ b ≤ 117 ∧ j = nc - 1 ∨ b = 83 ∧ j = 45)) S (me_aS S nc e q s) := by
  unfold me_aS
  split
  · exact cf_rfl
  · exact me_cl_cf
theorem de_an_le {nc : Nat} {e : ct_D} : nc ≤ de_an nc e ∧ de_an nc e ≤ nc + 1 := by
  unfold de_an
  split <;> omega
section DMa26
variable {A0 S0 A S : cm_S} {V : Nat → ct_T} {G : dm_Gs} {nc ne nf nv st lim wc sh dd g q : Nat} {e : ct_D} {a b c t2 : ct_T} {s : Int32}
theorem dw_e6 (hE : dw_E A0 S0 A S V G nc ne nf nv st lim wc sh dd g q e a b c t2 s) (he : e.1 = 6) : dw_Q A0 S0 A S V nc ne nf nv st lim wc sh dd q s := by
  obtain ⟨hA, hS, h7, h42, h10, h11, h, hon, hn, hs, hnc, hne, hnf, hnv⟩ := hE
  obtain ⟨f, x, y, z, pa, pb, pc, rfl, hnn, hed, ha, hb, hc⟩ := dm_n_nd hn
  have hq : 2400 + q < 8192 := hnn.1
  have la : ¬ a = .leaf := fun hl => absurd ((ct_wf_nd hn.2.2.2.1.1).2.1.mp hl) (by rw [ct_ar_of.1 (by rw [he]; decide)]; omega)
  have lb : ¬ b = .leaf := fun hl => absurd ((ct_wf_nd hn.2.2.2.1.1).2.2.1.mp hl) (by rw [ct_ar_of.1 (by rw [he]; decide)]; omega)
  obtain ⟨hpa, hna⟩ := ha la
  obtain ⟨hpb, hnb⟩ := hb lb
  have h9 := h.1.2.1
  have hdd := h.2.2.2.1
  have hxy := dm_nm1 hn (dt_w_nd hn.2.2.2.1).1 hed (Or.inr (Or.inr (Or.inl he)))
  have fA1 := de_mk_cf (A := A) (nc := nc) (q := Int32.ofNat (q + 1)) (s := s)
  have fS1 := me_cl_cf (S := S) (k := nc - 1) (q := Int32.ofNat (2400 + (q + 1))) (s := s)
  have fA2 := de_bd_cf (A := de_mk A nc (Int32.ofNat (q + 1)) s) (ne := ne) (x := e.2.2.1) (c := Int32.ofNat nc) (o := s)
  have fS2 := me_bd_cf (S := me_cl S (nc - 1) (Int32.ofNat (2400 + (q + 1))) s) (ne := ne) (y := f.2.2.1) (c := Int32.ofNat (nc - 1)) (o := s)
  have fA12 : cf_W (fun b j => decide (64 ≤ b ∧ b ≤ 71)) A (de_bd (de_mk A nc (Int32.ofNat (q + 1)) s) ne e.2.2.1 (Int32.ofNat nc) s) := cf_tr (cf_mono fA1 (fun b j h => decide_eq_true (by have h := of_decide_eq_true h; omega))) (cf_mono fA2 (fun b j h => decide_eq_true (by have h := of_decide_eq_true h; omega)))
  have fS12 : cf_W (fun b j => decide (b = 83 ∧ 45 ≤ j ∧ j ≤ 50 ∨ 114 ≤ b ∧ b ≤ 120)) S (me_bd (me_cl S (nc - 1) (Int32.ofNat (2400 + (q + 1))) s) ne f.2.2.1 (Int32.ofNat (nc - 1)) s) := cf_tr (cf_mono fS1 (fun b j h => decide_eq_true (by have h := of_decide_eq_true h; omega))) (cf_mono fS2 (fun b j h => decide_eq_true (by have h := of_decide_eq_true h; omega)))
  have hce : dm_ce (Int32.ofNat nc) = Int32.ofNat (nc - 1) := by rw [dm_ce_at (by omega), show dm_mc nc = nc - 1 by unfold dm_mc; rw [if_neg (by omega)]]
  have hnA1 := dm_n_cf fA1 (fun b j q1 q2 => decide_eq_false (by omega)) (cf_rfl (W := fun _ _ => false) (S := S)) (fun b x q1 q2 q3 q4 => rfl) hn
  have hnA2 := dm_n_cf fA12 (fun b j q1 q2 => decide_eq_false (by omega)) (cf_rfl (W := fun _ _ => false) (S := S)) (fun b x q1 q2 q3 q4 => rfl) hn
  have hnb2 := dm_n_cf fA12 (fun b j q1 q2 => decide_eq_false (by omega)) fS12 (fun b x q1 q2 q3 q4 => decide_eq_false (by omega)) hnb
  have hon2 : dw_on (de_bd (de_mk A nc (Int32.ofNat (q + 1)) s) ne e.2.2.1 (Int32.ofNat nc) s) (me_bd (me_cl S (nc - 1) (Int32.ofNat (2400 + (q + 1))) s) ne f.2.2.1 (Int32.ofNat (nc - 1)) s) := ⟨(fA12 57 6 (decide_eq_false (by omega))).1.trans hon.1, (fS12 83 40 (decide_eq_false (by omega))).1.trans hon.2⟩
  have h8 : (de_mk A nc (Int32.ofNat (q + 1)) s).1 64 8 = Int32.ofNat ne := (fA1 64 8 (decide_eq_false (by omega))).1.trans h.1.2.2.2.2.1
  have h50 : (me_cl S (nc - 1) (Int32.ofNat (2400 + (q + 1))) s).1 83 50 = Int32.ofNat ne := (fS1 83 50 (decide_eq_false (by omega))).1.trans h.1.2.2.2.2.2.1
  have p1 := dm_P_mk h hna (dm_sx_a hs (by rw [he]; decide))
  have p2 := dm_P_bd p1 hn.1 hxy (⟨nc, by omega, h9, rfl⟩ : dm_cr (nc + 1) (Int32.ofNat nc)) hs.1
  rw [hce] at p2
  have hs2 := dm_G2_sx (g := g) (dm_lb hs (Or.inr (Or.inl he)))
  obtain ⟨p4, p5⟩ := dw_evn p2 hon2 hnb2 hs2
  have kA : dw_c 61 6 [some (.ref 57), none, none] A0 (de_nx (de_bd (de_mk A nc (Int32.ofNat (q + 1)) s) ne e.2.2.1 (Int32.ofNat nc) s) (Int32.ofNat (q + 1 + ct_sz a)) (Int32.ofNat ne)) := by
    intro L xs d K k
    refine cx_61_0 ?_
    rintro _ rfl
    rw [h7, show Int32.ofNat st + 1 = Int32.ofNat (st + 1) from cp_ad (b := 1), ← hA]
    intro S2 h2
    rw [h2]
    intro x3 h3
    rw [h3, h10]
    refine dm_8 hn (cp_r1 ?_)
    rw [he]
    refine ⟨fun hc => absurd hc (by decide), fun _ => ⟨fun hc => absurd hc (by decide), fun _ => ⟨fun hc => absurd hc (by decide), fun _ => ⟨fun hc => absurd hc (by decide), fun _ => ⟨fun hc => absurd hc (by decide), fun _ => ⟨fun _ => ?_, fun hc => absurd (by decide) hc⟩⟩⟩⟩⟩⟩
    refine cx_61_222 _ ?_
    refine cx_62_0 _ ?_
    refine dm_14 (cp_r1 ?_)
    intro x4 h4
    rw [h4, h11]
    refine cp_123 h.1.2.2.1 (by omega) (cp_r1 ?_)
    refine dm_9 hnA1 (cp_r1 ?_)
    intro x5 h5
    rw [h5, (fA1 57 11 (decide_eq_false (by omega))).1, h11]
    refine cp_126 h8 (by omega) (cp_r1 ?_)
    refine dm_8 hnA2 (cp_r1 ?_)
    rw [he]
    refine ⟨fun hc => absurd hc (by decide), fun _ => ?_⟩
    refine dm_15 hnA2 la (cp_r1 ?_)
    refine cp_63 (cp_r0 ?_)
    try dsimp only [cm_sh]
    exact cp_r0 (cx_61_320 _ _ k)
  have kS : dw_c 257 3 [some (.ref 83), some (.int (Int32.ofNat (2400 + q))), some (.int s), none, none, none] S0 (me_ev (me_bd (me_cl S (nc - 1) (Int32.ofNat (2400 + (q + 1))) s) ne f.2.2.1 (Int32.ofNat (nc - 1)) s) (Int32.ofNat (2400 + (q + 1 + ct_sz a))) (Int32.ofNat ne)) := by
    intro L xs d K k
    refine cx_257_0 _ _ ?_
    rintro _ rfl
    rw [h42, show Int32.ofNat st + 1 = Int32.ofNat (st + 1) from cp_ad (b := 1), ← hS]
    intro S2 h2
    rw [h2]
    refine ⟨cp_in hq (by decide), ?_⟩
    rw [cp_cl (by omega)]
    intro x3 h3
    rw [h3, (dm_nk hnn).1, ← hed.1, he]
    refine ⟨fun hc => absurd hc (by decide), fun _ => ⟨fun hc => absurd hc (by decide), fun _ => ⟨fun hc => absurd hc (by decide), fun _ => ⟨fun hc => absurd hc (by decide), fun _ => ⟨fun hc => absurd hc (by decide), fun _ => ⟨fun hc => absurd hc (by decide), fun _ => ⟨fun _ => ?_, fun hc => absurd (by decide) hc⟩⟩⟩⟩⟩⟩⟩
    refine ⟨cp_in hq (by decide), ?_⟩
    intro x4 h4
    refine ⟨cp_in hq (by decide), ?_⟩
    intro x5 h5
    refine ⟨cp_in hq (by decide), ?_⟩
    intro x6 h6
    rw [h4, h5, h6, hnn.2.2.2.1, (dm_nk hnn).2.2.1, hnn.2.2.1, hpa, hpb]
    refine cp_249 (k := nc - 1) h.1.2.2.2.1 (by omega) (cp_r1 ?_)
    refine cp_250 h50 (by omega) (cp_r1 ?_)
    exact cp_254 (cp_r0 k)
  exact ⟨_, _, kA, kS, cf_tr (cf_mono fA12 (fun b j h => decide_eq_true (by have h := of_decide_eq_true h; omega))) (cf_mono dw_nx_cf (fun b j h => decide_eq_true (by have h := of_decide_eq_true h; omega))), cf_tr (cf_mono fS12 (fun b j h => decide_eq_true (by have h := of_decide_eq_true h; omega))) (cf_mono dw_ev_cf (fun b j h => decide_eq_true (by have h := of_decide_eq_true h; omega))), _, nc + 1, ne + 1, nf, nv, p4, dw_ct_cf (A := A) (fun i2 _ => (dw_nx_cf 73 i2 (decide_eq_false (by omega))).1.trans (fA12 73 i2 (decide_eq_false (by omega))).1) ⟨by omega, by omega, by omega, by omega, by omega⟩, p5⟩
theorem dw_e7 (hE : dw_E A0 S0 A S V G nc ne nf nv st lim wc sh dd g q e a b c t2 s) (he : e.1 = 7) : dw_Q A0 S0 A S V nc ne nf nv st lim wc sh dd q s := by
  obtain ⟨hA, hS, h7, h42, h10, h11, h, hon, hn, hs, hnc, hne, hnf, hnv⟩ := hE
  obtain ⟨f, x, y, z, pa, pb, pc, rfl, hnn, hed, ha, hb, hc⟩ := dm_n_nd hn
  have hq : 2400 + q < 8192 := hnn.1
  have la : ¬ a = .leaf := fun hl => absurd ((ct_wf_nd hn.2.2.2.1.1).2.1.mp hl) (by rw [ct_ar_of.1 (by rw [he]; decide)]; omega)
  have lb : ¬ b = .leaf := fun hl => absurd ((ct_wf_nd hn.2.2.2.1.1).2.2.1.mp hl) (by rw [ct_ar_of.1 (by rw [he]; decide)]; omega)
  obtain ⟨hpa, hna⟩ := ha la
  obtain ⟨hpb, hnb⟩ := hb lb
  have h9 := h.1.2.1
  have hdd := h.2.2.2.1
  have hxy := dm_nm1 hn (dt_w_nd hn.2.2.2.1).1 hed (Or.inr (Or.inr (Or.inr (Or.inl he))))
  have fA1 := de_mk_cf (A := A) (nc := nc) (q := Int32.ofNat (q + 1)) (s := s)
  have fS1 := me_cl_cf (S := S) (k := nc - 1) (q := Int32.ofNat (2400 + (q + 1))) (s := s)
  have fA2 := de_bd_cf (A := de_mk A nc (Int32.ofNat (q + 1)) s) (ne := ne) (x := e.2.2.1) (c := Int32.ofNat nc) (o := s)
  have fS2 := me_bd_cf (S := me_cl S (nc - 1) (Int32.ofNat (2400 + (q + 1))) s) (ne := ne) (y := f.2.2.1) (c := Int32.ofNat (nc - 1)) (o := s)
  have fA12 : cf_W (fun b j => decide (64 ≤ b ∧ b ≤ 71)) A (de_bd (de_mk A nc (Int32.ofNat (q + 1)) s) ne e.2.2.1 (Int32.ofNat nc) s) := cf_tr (cf_mono fA1 (fun b j h => decide_eq_true (by have h := of_decide_eq_true h; omega))) (cf_mono fA2 (fun b j h => decide_eq_true (by have h := of_decide_eq_true h; omega)))
  have fS12 : cf_W (fun b j => decide (b = 83 ∧ 45 ≤ j ∧ j ≤ 50 ∨ 114 ≤ b ∧ b ≤ 120)) S (me_bd (me_cl S (nc - 1) (Int32.ofNat (2400 + (q + 1))) s) ne f.2.2.1 (Int32.ofNat (nc - 1)) s) := cf_tr (cf_mono fS1 (fun b j h => decide_eq_true (by have h := of_decide_eq_true h; omega))) (cf_mono fS2 (fun b j h => decide_eq_true (by have h := of_decide_eq_true h; omega)))
  have hce : dm_ce (Int32.ofNat nc) = Int32.ofNat (nc - 1) := by rw [dm_ce_at (by omega), show dm_mc nc = nc - 1 by unfold dm_mc; rw [if_neg (by omega)]]
  have hnA1 := dm_n_cf fA1 (fun b j q1 q2 => decide_eq_false (by omega)) (cf_rfl (W := fun _ _ => false) (S := S)) (fun b x q1 q2 q3 q4 => rfl) hn
  have hnA2 := dm_n_cf fA12 (fun b j q1 q2 => decide_eq_false (by omega)) (cf_rfl (W := fun _ _ => false) (S := S)) (fun b x q1 q2 q3 q4 => rfl) hn
  have hnb2 := dm_n_cf fA12 (fun b j q1 q2 => decide_eq_false (by omega)) fS12 (fun b x q1 q2 q3 q4 => decide_eq_false (by omega)) hnb
  have hon2 : dw_on (de_bd (de_mk A nc (Int32.ofNat (q + 1)) s) ne e.2.2.1 (Int32.ofNat nc) s) (me_bd (me_cl S (nc - 1) (Int32.ofNat (2400 + (q + 1))) s) ne f.2.2.1 (Int32.ofNat (nc - 1)) s) := ⟨(fA12 57 6 (decide_eq_false (by omega))).1.trans hon.1, (fS12 83 40 (decide_eq_false (by omega))).1.trans hon.2⟩
  have h8 : (de_mk A nc (Int32.ofNat (q + 1)) s).1 64 8 = Int32.ofNat ne := (fA1 64 8 (decide_eq_false (by omega))).1.trans h.1.2.2.2.2.1
  have h50 : (me_cl S (nc - 1) (Int32.ofNat (2400 + (q + 1))) s).1 83 50 = Int32.ofNat ne := (fS1 83 50 (decide_eq_false (by omega))).1.trans h.1.2.2.2.2.2.1
  have hs2 := dm_G2_sx (g := g) (dm_lb hs (Or.inl (Or.inr he)))
  have hs3 := dm_G2_sx (g := g) (dm_la hs (Or.inr he))
  have fAmb : cf_W (fun b j => decide (65 ≤ b ∧ b ≤ 68 ∧ j = nc ∨ 69 ≤ b ∧ b ≤ 71 ∧ j = ne ∨ b = 64 ∧ (j = 4 ∨ j = 8))) A (de_bd (de_mk A nc (Int32.ofNat (q + 1)) s) ne e.2.2.1 (Int32.ofNat nc) s) := cf_tr (cf_mono fA1 (fun b j h => decide_eq_true (by have h := of_decide_eq_true h; omega))) (cf_mono fA2 (fun b j h => decide_eq_true (by have h := of_decide_eq_true h; omega)))
  have fSmb : cf_W (fun b j => decide (114 ≤ b ∧ b ≤ 117 ∧ j = nc - 1 ∨ 118 ≤ b ∧ b ≤ 120 ∧ j = ne ∨ b = 83 ∧ (j = 45 ∨ j = 50))) S (me_bd (me_cl S (nc - 1) (Int32.ofNat (2400 + (q + 1))) s) ne f.2.2.1 (Int32.ofNat (nc - 1)) s) := cf_tr (cf_mono fS1 (fun b j h => decide_eq_true (by have h := of_decide_eq_true h; omega))) (cf_mono fS2 (fun b j h => decide_eq_true (by have h := of_decide_eq_true h; omega)))
  have b64 : (de_bd (de_mk A nc (Int32.ofNat (q + 1)) s) ne e.2.2.1 (Int32.ofNat nc) s).1 64 4 = Int32.ofNat (nc + 1) := by
    rw [(fA2 64 4 (decide_eq_false (by omega))).1]
    show (de_fi (cm_wI A 64 4 (Int32.ofNat (nc + 1))) nc (-1) (Int32.ofNat (q + 1)) s 0).1 64 4 = _
    rw [(de_fi_cf 64 4 (decide_eq_false (by omega))).1, cp_wI1, if_pos ⟨rfl, rfl⟩]
  have b45 : (me_bd (me_cl S (nc - 1) (Int32.ofNat (2400 + (q + 1))) s) ne f.2.2.1 (Int32.ofNat (nc - 1)) s).1 83 45 = Int32.ofNat nc := by
    rw [(fS2 83 45 (decide_eq_false (by omega))).1, me_cl_at.2.2.2.2]
    congr 1; omega
  obtain ⟨w1, w2, w3, w4⟩ := de_bd_at (A := de_mk A nc (Int32.ofNat (q + 1)) s) (ne := ne) (x := e.2.2.1) (c := Int32.ofNat nc) (o := s)
  obtain ⟨z1, z2, z3, z4⟩ := me_bd_at (S := me_cl S (nc - 1) (Int32.ofNat (2400 + (q + 1))) s) (ne := ne) (y := f.2.2.1) (c := Int32.ofNat (nc - 1)) (o := s)
  generalize hB : de_bd (de_mk A nc (Int32.ofNat (q + 1)) s) ne e.2.2.1 (Int32.ofNat nc) s = B at *
  generalize hT : me_bd (me_cl S (nc - 1) (Int32.ofNat (2400 + (q + 1))) s) ne f.2.2.1 (Int32.ofNat (nc - 1)) s = U at *
  have fA3 : cf_W (fun b j => decide (65 ≤ b ∧ b ≤ 68 ∧ j = nc)) B (cm_wI B 67 nc (Int32.ofNat ne)) := cf_wI (decide_eq_true (by omega))
  have hmc : dm_mc nc = nc - 1 := by unfold dm_mc; rw [if_neg (by omega)]
  have fS3 : cf_W (fun b j => decide (115 ≤ b ∧ b ≤ 117 ∧ j = dm_mc nc)) U (cm_wI U 115 (nc - 1) (Int32.ofNat ne)) := cf_wI (decide_eq_true (by omega))
  obtain ⟨v1, v2, v3, v4, v5⟩ := me_cl_at (S := S) (k := nc - 1) (q := Int32.ofNat (2400 + (q + 1))) (s := s)
  obtain ⟨u1, u2, u3, u4⟩ := de_fi_at (A := cm_wI A 64 4 (Int32.ofNat (nc + 1))) (i := nc) (st := -1) (f := Int32.ofNat (q + 1)) (s := s) (num := 0)
  have hna3 := dm_n_cf (cf_tr (cf_mono fA12 (fun b j h => decide_eq_true (by have h := of_decide_eq_true h; omega))) (cf_mono (W2 := fun b j => decide (64 ≤ b ∧ b ≤ 71)) fA3 (fun b j h => decide_eq_true (by have h := of_decide_eq_true h; omega)))) (fun b j q1 q2 => decide_eq_false (by omega)) (cf_tr (cf_mono fS12 (fun b j h => decide_eq_true (by have h := of_decide_eq_true h; omega))) (cf_mono (W2 := fun b j => decide (b = 83 ∧ 45 ≤ j ∧ j ≤ 50 ∨ 114 ≤ b ∧ b ≤ 120)) fS3 (fun b j h => decide_eq_true (by have h := of_decide_eq_true h; omega)))) (fun b x q1 q2 q3 q4 => decide_eq_false (by omega)) hna
  have hcl : dm_cl (cm_wI B 67 nc (Int32.ofNat ne)) (cm_wI U 115 (nc - 1) (Int32.ofNat ne)) V (dm_G2 G ne g e.2.2.1 s) (ne + 1) (nc + 1) nv nc := by
    refine Or.inr (Or.inl ⟨?_, ⟨g, q + 1, a, x, ?_, hna3, ?_, ?_⟩, ?_, ?_, ?_⟩)
    · rw [cp_wI1, if_neg (by omega), (fA2 65 nc (decide_eq_false (by omega))).1]; exact u1
    · rw [cp_wI1, if_neg (by omega), (fA2 66 nc (decide_eq_false (by omega))).1]; exact u2
    · rw [hmc, cp_wI1, if_neg (by omega), (fS2 114 (nc - 1) (decide_eq_false (by omega))).1]; exact v1
    · rw [cp_wI1, if_pos ⟨rfl, rfl⟩]; exact hs3
    · rw [hmc, cp_wI1, if_pos ⟨rfl, rfl⟩, cp_wI1, if_pos ⟨rfl, rfl⟩]
    · rw [hmc, cp_wI1, if_neg (by omega), (fS2 116 (nc - 1) (decide_eq_false (by omega))).1]; exact v3
    · rw [hmc, cp_wI1, if_neg (by omega), (fS2 117 (nc - 1) (decide_eq_false (by omega))).1]; exact v4
  have p3 := dm_P_mb (cf_tr fAmb (cf_mono fA3 (fun b j h => decide_eq_true (by have h := of_decide_eq_true h; omega)))) (cf_tr fSmb (cf_wI (decide_eq_true (by omega)))) ((fA3 64 4 (decide_eq_false (by omega))).1.trans b64) ((fS3 83 45 (decide_eq_false (by omega))).1.trans b45) ((fA3 64 8 (decide_eq_false (by omega))).1.trans w4) ((fS3 83 50 (decide_eq_false (by omega))).1.trans z4) ((fA3 69 ne (decide_eq_false (by omega))).1.trans w1) ((fA3 70 ne (decide_eq_false (by omega))).1.trans w2) ((fA3 71 ne (decide_eq_false (by omega))).1.trans w3) ((fS3 118 ne (decide_eq_false (by omega))).1.trans z1) ((fS3 119 ne (decide_eq_false (by omega))).1.trans (by rw [z2, hce])) ((fS3 120 ne (decide_eq_false (by omega))).1.trans z3) hxy ⟨nc, by omega, h9, rfl⟩ hs.1 hcl (by rw [cp_wI1, if_neg (by omega), (fA2 65 nc (decide_eq_false (by omega))).1]; show ¬ (de_fi (cm_wI A 64 4 (Int32.ofNat (nc + 1))) nc (-1) (Int32.ofNat (q + 1)) s 0).1 65 nc = -2; rw [u1]; decide) h
  have hnb3 := dm_n_cf fA3 (fun b j q1 q2 => decide_eq_false (by omega)) fS3 (fun b x q1 q2 q3 q4 => decide_eq_false (by omega)) hnb2
  have hon3 : dw_on (cm_wI B 67 nc (Int32.ofNat ne)) (cm_wI U 115 (nc - 1) (Int32.ofNat ne)) := ⟨(fA3 57 6 (decide_eq_false (by omega))).1.trans hon2.1, (fS3 83 40 (decide_eq_false (by omega))).1.trans hon2.2⟩
  obtain ⟨p4, p5⟩ := dw_evn p3 hon3 hnb3 hs2
  have hnA3 := dm_n_cf fA3 (fun b j q1 q2 => decide_eq_false (by omega)) (cf_rfl (W := fun _ _ => false) (S := S)) (fun b x q1 q2 q3 q4 => rfl) hnA2
  have kA : dw_c 61 6 [some (.ref 57), none, none] A0 (de_nx (cm_wI B 67 nc (Int32.ofNat ne)) (Int32.ofNat (q + 1 + ct_sz a)) (Int32.ofNat ne)) := by
    intro L xs d K k
    refine cx_61_0 ?_
    rintro _ rfl
    rw [h7, show Int32.ofNat st + 1 = Int32.ofNat (st + 1) from cp_ad (b := 1), ← hA]
    intro S2 h2
    rw [h2]
    intro x3 h3
    rw [h3, h10]
    refine dm_8 hn (cp_r1 ?_)
    rw [he]
    refine ⟨fun hc => absurd hc (by decide), fun _ => ⟨fun hc => absurd hc (by decide), fun _ => ⟨fun hc => absurd hc (by decide), fun _ => ⟨fun hc => absurd hc (by decide), fun _ => ⟨fun hc => absurd hc (by decide), fun _ => ⟨fun hc => absurd hc (by decide), fun _ => ⟨fun _ => ?_, fun hc => absurd (by decide) hc⟩⟩⟩⟩⟩⟩⟩
    refine cx_61_222 _ ?_
    refine cx_62_0 _ ?_
    refine dm_14 (cp_r1 ?_)
    intro x4 h4
    rw [h4, h11]
    refine cp_123 h.1.2.2.1 (by omega) (cp_r1 ?_)
    refine dm_9 hnA1 (cp_r1 ?_)
    intro x5 h5
    rw [h5, (fA1 57 11 (decide_eq_false (by omega))).1, h11]
    refine cp_126 h8 (by omega) (cp_r1 ?_)
    rw [hB]
    refine dm_8 hnA2 (cp_r1 ?_)
    rw [he]
    refine ⟨fun _ => ?_, fun hc => absurd rfl hc⟩
    refine cp_125 (m := nc) (by omega) (cp_r0 ?_)
    refine dm_15 hnA3 la (cp_r1 ?_)
    refine cp_63 (cp_r0 ?_)
    try dsimp only [cm_sh]
    exact cp_r0 (cx_61_320 _ _ k)
  have kS : dw_c 257 3 [some (.ref 83), some (.int (Int32.ofNat (2400 + q))), some (.int s), none, none, none] S0 (me_ev (cm_wI U 115 (nc - 1) (Int32.ofNat ne)) (Int32.ofNat (2400 + (q + 1 + ct_sz a))) (Int32.ofNat ne)) := by
    intro L xs d K k
    refine cx_257_0 _ _ ?_
    rintro _ rfl
    rw [h42, show Int32.ofNat st + 1 = Int32.ofNat (st + 1) from cp_ad (b := 1), ← hS]
    intro S2 h2
    rw [h2]
    refine ⟨cp_in hq (by decide), ?_⟩
    rw [cp_cl (by omega)]
    intro x3 h3
    rw [h3, (dm_nk hnn).1, ← hed.1, he]
    refine ⟨fun hc => absurd hc (by decide), fun _ => ⟨fun hc => absurd hc (by decide), fun _ => ⟨fun hc => absurd hc (by decide), fun _ => ⟨fun hc => absurd hc (by decide), fun _ => ⟨fun hc => absurd hc (by decide), fun _ => ⟨fun hc => absurd hc (by decide), fun _ => ⟨fun hc => absurd hc (by decide), fun _ => ⟨fun _ => ?_, fun hc => absurd (by decide) hc⟩⟩⟩⟩⟩⟩⟩⟩
    refine ⟨cp_in hq (by decide), ?_⟩
    intro x4 h4
    rw [h4, hnn.2.2.1, hpa]
    refine cp_249 (k := nc - 1) h.1.2.2.2.1 (by omega) (cp_r1 ?_)
    refine ⟨cp_in hq (by decide), ?_⟩
    intro x5 h5
    rw [h5, (fS1 97 (2400 + q) (decide_eq_false (by omega))).1, (dm_nk hnn).2.2.1]
    refine cp_250 h50 (by omega) (cp_r1 ?_)
    rw [hT]
    refine ⟨cp_in (by omega) (by decide), ?_⟩
    rw [cp_cl (by omega)]
    intro S3 h3
    rw [h3]
    refine ⟨cp_in hq (by decide), ?_⟩
    intro x6 h6
    rw [h6, (fS3 95 (2400 + q) (decide_eq_false (by omega))).1, (fS12 95 (2400 + q) (decide_eq_false (by omega))).1, hnn.2.2.2.1, hpb]
    exact cp_254 (cp_r0 k)
  exact ⟨_, _, kA, kS, cf_tr (cf_tr (cf_mono fA12 (fun b j h => decide_eq_true (by have h := of_decide_eq_true h; omega))) (cf_mono fA3 (fun b j h => decide_eq_true (by have h := of_decide_eq_true h; omega)))) (cf_mono dw_nx_cf (fun b j h => decide_eq_true (by have h := of_decide_eq_true h; omega))), cf_tr (cf_tr (cf_mono fS12 (fun b j h => decide_eq_true (by have h := of_decide_eq_true h; omega))) (cf_mono fS3 (fun b j h => decide_eq_true (by have h := of_decide_eq_true h; omega)))) (cf_mono dw_ev_cf (fun b j h => decide_eq_true (by have h := of_decide_eq_true h; omega))), _, nc + 1, ne + 1, nf, nv, p4, dw_ct_cf (A := A) (fun i2 _ => (dw_nx_cf 73 i2 (decide_eq_false (by omega))).1.trans ((fA3 73 i2 (decide_eq_false (by omega))).1.trans (fA12 73 i2 (decide_eq_false (by omega))).1)) ⟨by omega, by omega, by omega, by omega, by omega⟩, p5⟩
theorem dw_e11 (hE : dw_E A0 S0 A S V G nc ne nf nv st lim wc sh dd g q e a b c t2 s) (he : e.1 = 11) : dw_Q A0 S0 A S V nc ne nf nv st lim wc sh dd q s := by
  obtain ⟨hA, hS, h7, h42, h10, h11, h, hon, hn, hs, hnc, hne, hnf, hnv⟩ := hE
  obtain ⟨f, x, y, z, pa, pb, pc, rfl, hnn, hed, ha, hb, hc⟩ := dm_n_nd hn
  have hq : 2400 + q < 8192 := hnn.1
  have la : ¬ a = .leaf := fun hl => absurd ((ct_wf_nd hn.2.2.2.1.1).2.1.mp hl) (by rw [ct_ar_of.1 (by rw [he]; decide)]; omega)
  have lb : ¬ b = .leaf := fun hl => absurd ((ct_wf_nd hn.2.2.2.1.1).2.2.1.mp hl) (by rw [ct_ar_of.1 (by rw [he]; decide)]; omega)
  obtain ⟨hpa, hna⟩ := ha la
  obtain ⟨hpb, hnb⟩ := hb lb
  obtain ⟨ea, a1, a2, a3, hae⟩ := ct_cs hna.2.2.2.1.1 la
  obtain ⟨eb, b1, b2, b3, hbe⟩ := ct_cs hnb.2.2.2.1.1 lb
  have hna' := hna
  rw [hae] at hna'
  have sxa := dm_sx_a hs (by rw [he]; decide)
  have sxb := dm_sx_b hs (by rw [he]; decide)
  rw [hae] at sxa
  rw [hbe] at sxb
  have fA1 := de_aA_cf (A := A) (nc := nc) (q := q + 1) (e := ea) (s := s)
  have fS1 := me_aS_cf (S := S) (nc := nc) (q := q + 1) (e := ea) (s := s)
  have p1 := dm_P_arg h hna' sxa
  have r1 := (dm_arg h.1 (by omega) hna' sxa).2
  obtain ⟨l1, l2⟩ := de_an_le (nc := nc) (e := ea)
  have kA1 : ∀ (L : Nat) (xs : Nat → Int32) (d : Nat) (K : cm_K), K (.inl (some (.int (de_ac A nc ea s)))) (de_aA A nc ea (q + 1) s) 0 → cm_At (am_XX L xs) (d + 4) 65 0 [some (.ref 57), some (.int (Int32.ofNat (q + 1))), some (.int s)] [] A K := fun L xs d K k => cp_65 h.1 hna' hs.1 (by omega) (by omega) k
  have kS1 : ∀ (L : Nat) (xs : Nat → Int32) (d : Nat) (K : cm_K), K (.inl (some (.int (dm_ce (de_ac A nc ea s))))) (me_aS S nc ea (q + 1) s) 0 → cm_At (am_XX L xs) (d + 2) 252 0 [some (.ref 83), some (.int (Int32.ofNat (2400 + (q + 1)))), some (.int s)] [] S K := fun L xs d K k => cp_252 h.1 hna' hs.1 (by omega) (by omega) k
  generalize de_ac A nc ea s = c1 at r1 kA1 kS1
  generalize hB : de_aA A nc ea (q + 1) s = B at fA1 p1 kA1
  generalize hT : me_aS S nc ea (q + 1) s = T at fS1 p1 kS1
  generalize de_an nc ea = n1 at r1 p1 l1 l2
  have hnB := dm_n_cf fA1 (fun b j q1 q2 => decide_eq_false (by omega)) (cf_rfl (W := fun _ _ => false) (S := S)) (fun b x q1 q2 q3 q4 => rfl) hn
  have hnb' := dm_n_cf fA1 (fun b j q1 q2 => decide_eq_false (by omega)) fS1 (fun b x q1 q2 q3 q4 => decide_eq_false (by omega)) hnb
  rw [hbe] at hnb'
  have fA2 := de_aA_cf (A := B) (nc := n1) (q := q + 1 + ct_sz a) (e := eb) (s := s)
  have fS2 := me_aS_cf (S := T) (nc := n1) (q := q + 1 + ct_sz a) (e := eb) (s := s)
  have p2 := dm_P_arg p1 hnb' sxb
  have r2 := (dm_arg p1.1 (by omega) hnb' sxb).2
  obtain ⟨l3, l4⟩ := de_an_le (nc := n1) (e := eb)
  have kA2 : ∀ (L : Nat) (xs : Nat → Int32) (d : Nat) (K : cm_K), K (.inl (some (.int (de_ac B n1 eb s)))) (de_aA B n1 eb (q + 1 + ct_sz a) s) 0 → cm_At (am_XX L xs) (d + 4) 65 0 [some (.ref 57), some (.int (Int32.ofNat (q + 1 + ct_sz a))), some (.int s)] [] B K := fun L xs d K k => cp_65 p1.1 hnb' hs.1 (by omega) (by omega) k
  have kS2 : ∀ (L : Nat) (xs : Nat → Int32) (d : Nat) (K : cm_K), K (.inl (some (.int (dm_ce (de_ac B n1 eb s))))) (me_aS T n1 eb (q + 1 + ct_sz a) s) 0 → cm_At (am_XX L xs) (d + 2) 252 0 [some (.ref 83), some (.int (Int32.ofNat (2400 + (q + 1 + ct_sz a)))), some (.int s)] [] T K := fun L xs d K k => cp_252 p1.1 hnb' hs.1 (by omega) (by omega) k
  generalize de_ac B n1 eb s = c2 at r2 kA2 kS2
  generalize hB2 : de_aA B n1 eb (q + 1 + ct_sz a) s = B2 at fA2 p2 kA2
  generalize hT2 : me_aS T n1 eb (q + 1 + ct_sz a) s = T2 at fS2 p2 kS2
  generalize de_an n1 eb = n2 at r2 p2 l3 l4
  have fA12 : cf_W (fun b j => decide (64 ≤ b ∧ b ≤ 68)) A B2 := cf_tr (cf_mono fA1 (fun b j h => decide_eq_true (by have h := of_decide_eq_true h; omega))) (cf_mono fA2 (fun b j h => decide_eq_true (by have h := of_decide_eq_true h; omega)))
  have fS12 : cf_W (fun b j => decide (b = 83 ∧ j = 45 ∨ 114 ≤ b ∧ b ≤ 117)) S T2 := cf_tr (cf_mono fS1 (fun b j h => decide_eq_true (by have h := of_decide_eq_true h; omega))) (cf_mono fS2 (fun b j h => decide_eq_true (by have h := of_decide_eq_true h; omega)))
  have hon2 : dw_on B2 T2 := ⟨(fA12 57 6 (decide_eq_false (by omega))).1.trans hon.1, (fS12 83 40 (decide_eq_false (by omega))).1.trans hon.2⟩
  have kA : dw_c 61 6 [some (.ref 57), none, none] A0 (de_gv B2 11 c1 c2 0) := by
    intro L xs d K k
    refine cx_61_0 ?_
    rintro _ rfl
    rw [h7, show Int32.ofNat st + 1 = Int32.ofNat (st + 1) from cp_ad (b := 1), ← hA]
    intro S2 h2
    rw [h2]
    intro x3 h3
    rw [h3, h10]
    refine dm_8 hn (cp_r1 ?_)
    rw [he]
    refine ⟨fun hc => absurd hc (by decide), fun _ => ⟨fun hc => absurd hc (by decide), fun _ => ⟨fun hc => absurd hc (by decide), fun _ => ⟨fun hc => absurd hc (by decide), fun _ => ⟨fun hc => absurd hc (by decide), fun _ => ⟨fun hc => absurd hc (by decide), fun _ => ⟨fun hc => absurd hc (by decide), fun _ => ⟨fun hc => absurd hc (by decide), fun _ => ⟨fun hc => absurd hc (by decide), fun _ => ⟨fun hc => absurd hc (by decide), fun _ => ⟨fun _ => ?_, fun hc => absurd (by decide) hc⟩⟩⟩⟩⟩⟩⟩⟩⟩⟩⟩
    refine dm_14 (cp_r1 ?_)
    intro x4 h4
    rw [h4, h11]
    refine kA1 L xs (d + 1) _ (cp_r1 ?_)
    refine dm_15 hnB la (cp_r1 ?_)
    intro x5 h5
    rw [h5, (fA1 57 11 (decide_eq_false (by omega))).1, h11]
    refine kA2 L xs (d + 1) _ (cp_r1 ?_)
    exact cp_64 (cp_r0 (cx_61_320 _ _ k))
  have kS : dw_c 257 3 [some (.ref 83), some (.int (Int32.ofNat (2400 + q))), some (.int s), none, none, none] S0 (me_gv (me_vl T2 nv 2 1 (dm_ce c1) (dm_ce c2)) (Int32.ofNat nv)) := by
    intro L xs d K k
    refine cx_257_0 _ _ ?_
    rintro _ rfl
    rw [h42, show Int32.ofNat st + 1 = Int32.ofNat (st + 1) from cp_ad (b := 1), ← hS]
    intro S2 h2
    rw [h2]
    refine ⟨cp_in hq (by decide), ?_⟩
    rw [cp_cl (by omega)]
    intro x3 h3
    rw [h3, (dm_nk hnn).1, ← hed.1, he]
    refine ⟨fun hc => absurd hc (by decide), fun _ => ⟨fun hc => absurd hc (by decide), fun _ => ⟨fun hc => absurd hc (by decide), fun _ => ⟨fun _ => ?_, fun hc => absurd (by decide) hc⟩⟩⟩⟩
    refine ⟨cp_in hq (by decide), ?_⟩
    intro x4 h4
    rw [h4, hnn.2.2.1, hpa]
    refine kS1 L xs d _ (cp_r1 ?_)
    refine ⟨cp_in hq (by decide), ?_⟩
    intro x5 h5
    rw [h5, (fS1 95 (2400 + q) (decide_eq_false (by omega))).1, hnn.2.2.2.1, hpb]
    refine kS2 L xs d _ (cp_r1 ?_)
    refine cp_248 p2.1.2.2.2.2.2.2.2.2.1 (by omega) (cp_r1 ?_)
    exact cp_255 (cp_r0 k)
  obtain ⟨v1, v2, v3, v4, v5⟩ := me_vl_at (S := T2) (nv := nv) (t := 2) (num := 1) (o1 := dm_ce c1) (o2 := dm_ce c2)
  have hv : dm_vl B2 (me_vl T2 nv 2 1 (dm_ce c1) (dm_ce c2)) V G ne n2 11 c1 c2 0 nv := Or.inr (Or.inr (Or.inr ⟨rfl, v1, v2, v3, v4, dm_cr_mo r1 l3, r2⟩))
  obtain ⟨p3, p4⟩ := dw_giv p2 hon2 hv
  exact ⟨_, _, kA, kS, cf_tr (cf_mono fA12 (fun b j h => decide_eq_true (by have h := of_decide_eq_true h; omega))) (cf_mono dw_gv_cf (fun b j h => decide_eq_true (by have h := of_decide_eq_true h; omega))), cf_tr (cf_mono fS12 (fun b j h => decide_eq_true (by have h := of_decide_eq_true h; omega))) (cf_tr (cf_mono me_vl_cf (fun b j h => decide_eq_true (by have h := of_decide_eq_true h; omega))) (cf_mono dw_gs_cf (fun b j h => decide_eq_true (by have h := of_decide_eq_true h; omega)))), G, n2, ne, nf, nv + 1, p3, dw_ct_cf (A := A) (fun i _ => (dw_gv_cf 73 i (decide_eq_false (by omega))).1.trans (fA12 73 i (decide_eq_false (by omega))).1) ⟨by omega, by omega, by omega, by omega, by omega⟩, p4⟩
/-- any node -/
theorem dw_eval (hE : dw_E A0 S0 A S V G nc ne nf nv st lim wc sh dd g q e a b c t2 s) : dw_Q A0 S0 A S V nc ne nf nv st lim wc sh dd q s := by
  have hk := (ct_wf_nd hE.2.2.2.2.2.2.2.2.1.2.2.2.1.1).1
  obtain ⟨k, hk1, hk2, hk3⟩ := cp_of (p := e.1) (by omega)
  have hk4 : 1 ≤ k ∧ k ≤ 14 := by omega
  have hh : ∀ m, k = m → e.1 = Int32.ofNat m := fun m hm => by rw [hk1, hm]
  by_cases k1 : k = 1
  · exact dw_e1 hE (hh 1 k1)
  by_cases k2 : k = 2
  · exact dw_e2 hE (hh 2 k2)
  by_cases k3 : k = 3
  · exact dw_e3 hE (hh 3 k3)
  by_cases k4 : k = 4
  · exact dw_e4 hE (hh 4 k4)
  by_cases k5 : k = 5
  · exact dw_e5 hE (hh 5 k5)
  by_cases k6 : k = 6
  · exact dw_e6 hE (hh 6 k6)
  by_cases k7 : k = 7
  · exact dw_e7 hE (hh 7 k7)
  by_cases k8 : k = 8
  · exact dw_e8 hE (hh 8 k8)
  by_cases k9 : k = 9
  · exact dw_e9 hE (hh 9 k9)
  by_cases k10 : k = 10
  · exact dw_e10 hE (hh 10 k10)
  by_cases k11 : k = 11
  · exact dw_e11 hE (hh 11 k11)
  by_cases k12 : k = 12
  · exact dw_e12 hE (hh 12 k12)
  by_cases k13 : k = 13
  · exact dw_e13 hE (hh 13 k13)
  exact dw_e14 hE (hh 14 (by omega))
end DMa26
