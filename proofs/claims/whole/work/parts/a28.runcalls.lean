/-! ## a28 the run machine: calls, forced lets, matches, cells filled -/
section DMa28
variable {A0 S0 A S : cm_S} {V : Nat → ct_T} {G : dm_Gs} {nc ne nf nv st lim wc sh dd g q v : Nat} {e : ct_D} {a b c t2 : ct_T} {s : Int32}
theorem dw_r5 (hF : dw_F A0 S0 A S V G nc ne nf nv st lim wc sh dd v) (hn : dm_n A S V g q (ct_nd e a b c) t2) (he : e.1 = 5) (hkd : A.1 73 nf = 5) (hp : A.1 74 nf = Int32.ofNat q) (hmk : S.1 125 nf = 1) (hp2 : S.1 126 nf = Int32.ofNat (2400 + q)) (hsc : A.1 75 nf = s) (hsc2 : S.1 127 nf = s) (hs : dm_sx G ne g (ct_nd e a b c) s) : dw_QF A0 S0 A S V st lim wc sh dd (nc + dm_nb A nf + 1) (ne + 2 * dm_nb A nf + 2) (nv + dm_nb A nf + 1) (nf + 1) (dm_fw A nf) := by
  obtain ⟨hA, hS, h72, h59, h, hon, hvn, hgv, hvl, hnc, hne, hnf, hnv, h57, h63⟩ := hF
  have hA72 := h.1.2.2.2.2.2.2.1
  have hS59 := h.1.2.2.2.2.2.2.2.1
  obtain ⟨f, x, y, z, pa, pb, pc, rfl, hnn, hed, ha, hb, hc⟩ := dm_n_nd hn
  have hq : 2400 + q < 8192 := hnn.1
  obtain ⟨tg1, tg2, tg3⟩ := dw_tags hvl
  have ct1 : dw_ct A nc ne nf nv (nc + dm_nb A nf + 1) (ne + 2 * dm_nb A nf + 2) (nv + dm_nb A nf + 1) (nf + 1) (dm_fw A nf) := ⟨by omega, by omega, by omega, by omega, by omega⟩
  have la : ¬ a = .leaf := fun hl => absurd ((ct_wf_nd hn.2.2.2.1.1).2.1.mp hl) (by rw [ct_ar_of.1 (by rw [he]; decide)]; omega)
  have lb : ¬ b = .leaf := fun hl => absurd ((ct_wf_nd hn.2.2.2.1.1).2.2.1.mp hl) (by rw [ct_ar_of.1 (by rw [he]; decide)]; omega)
  obtain ⟨hpb, hnb⟩ := hb lb
  by_cases hk : A.1 65 8 = 4
  · have hk2 := tg1.mp hk
    obtain ⟨g2, q2, e2, a2, b2, c2, t3, hf2, hl2, he2, hv3, hv4, hs2⟩ := dw_vfun hvl hk
    obtain ⟨f2, x2, y2, z2, pa2, pb2, pc2, rfl, hnn2, hed2, ha2, hb2, hc2⟩ := dm_n_nd hl2
    have hq2 : 2400 + q2 < 8192 := hnn2.1
    have la2 : ¬ a2 = .leaf := fun hl => absurd ((ct_wf_nd hl2.2.2.2.1.1).2.1.mp hl) (by rw [ct_ar_of.2.2.1 (Or.inl he2)]; omega)
    obtain ⟨hpa2, hna2⟩ := ha2 la2
    have hxy2 := dm_nm1 hl2 (dt_w_nd hl2.2.2.2.1).1 hed2 (Or.inr (Or.inl he2))
    obtain ⟨eb, b1, b3, b4, hbe⟩ := ct_cs hnb.2.2.2.1.1 lb
    rw [hbe] at hnb
    have sxb := dm_sx_b hs (by rw [he]; decide)
    rw [hbe] at sxb
    have fA1 := de_aA_cf (A := A) (nc := nc) (q := q + 1 + ct_sz a) (e := eb) (s := s)
    have fS1 := me_aS_cf (S := S) (nc := nc) (q := q + 1 + ct_sz a) (e := eb) (s := s)
    have p1 := dm_P_arg h hnb sxb
    have r1 := (dm_arg h.1 (by omega) hnb sxb).2
    obtain ⟨l1, l2⟩ := de_an_le (nc := nc) (e := eb)
    have kA1 : ∀ (L : Nat) (xs : Nat → Int32) (d : Nat) (K : cm_K), K (.inl (some (.int (de_ac A nc eb s)))) (de_aA A nc eb (q + 1 + ct_sz a) s) 0 → cm_At (am_XX L xs) (d + 4) 65 0 [some (.ref 57), some (.int (Int32.ofNat (q + 1 + ct_sz a))), some (.int s)] [] A K := fun L xs d K k => cp_65 h.1 hnb hs.1 (by omega) (by omega) k
    have kS1 : ∀ (L : Nat) (xs : Nat → Int32) (d : Nat) (K : cm_K), K (.inl (some (.int (dm_ce (de_ac A nc eb s))))) (me_aS S nc eb (q + 1 + ct_sz a) s) 0 → cm_At (am_XX L xs) (d + 2) 252 0 [some (.ref 83), some (.int (Int32.ofNat (2400 + (q + 1 + ct_sz a)))), some (.int s)] [] S K := fun L xs d K k => cp_252 h.1 hnb hs.1 (by omega) (by omega) k
    generalize de_ac A nc eb s = c1 at r1 kA1 kS1
    generalize hB : de_aA A nc eb (q + 1 + ct_sz a) s = B at fA1 p1 kA1
    generalize hT : me_aS S nc eb (q + 1 + ct_sz a) s = T at fS1 p1 kS1
    generalize de_an nc eb = n1 at r1 p1 l1 l2
    have hlB := dm_n_cf fA1 (fun b j q1 q2 => decide_eq_false (by omega)) (cf_rfl (W := fun _ _ => false) (S := S)) (fun b x q1 q2 q3 q4 => rfl) hl2
    have fA2 := de_bd_cf (A := B) (ne := ne) (x := e2.2.2.1) (c := c1) (o := A.1 67 8)
    have fS2 := me_bd_cf (S := T) (ne := ne) (y := f2.2.2.1) (c := dm_ce c1) (o := A.1 67 8)
    have p2 := dm_P_bd p1 hl2.1 hxy2 r1 hs2.1
    have hs3 := dm_G2_sx (g := g2) (dm_la hs2 (Or.inl he2))
    have fA12 : cf_W (fun b j => decide (64 ≤ b ∧ b ≤ 71)) A (de_bd B ne e2.2.2.1 c1 (A.1 67 8)) := cf_tr (cf_mono fA1 (fun b j h => decide_eq_true (by have h := of_decide_eq_true h; omega))) (cf_mono fA2 (fun b j h => decide_eq_true (by have h := of_decide_eq_true h; omega)))
    have fS12 : cf_W (fun b j => decide (b = 83 ∧ 45 ≤ j ∧ j ≤ 50 ∨ 114 ≤ b ∧ b ≤ 120)) S (me_bd T ne f2.2.2.1 (dm_ce c1) (A.1 67 8)) := cf_tr (cf_mono fS1 (fun b j h => decide_eq_true (by have h := of_decide_eq_true h; omega))) (cf_mono fS2 (fun b j h => decide_eq_true (by have h := of_decide_eq_true h; omega)))
    have hna3 := dm_n_cf fA12 (fun b j q1 q2 => decide_eq_false (by omega)) fS12 (fun b x q1 q2 q3 q4 => decide_eq_false (by omega)) hna2
    have hon2 : dw_on (de_bd B ne e2.2.2.1 c1 (A.1 67 8)) (me_bd T ne f2.2.2.1 (dm_ce c1) (A.1 67 8)) := ⟨(fA12 57 6 (decide_eq_false (by omega))).1.trans hon.1, (fS12 83 40 (decide_eq_false (by omega))).1.trans hon.2⟩
    obtain ⟨p3, p4⟩ := dw_evn p2 hon2 hna3 hs3
    have kA : dw_c 67 6 [some (.ref 57), none, none, none] A0 (de_nx (de_bd B ne e2.2.2.1 c1 (A.1 67 8)) (Int32.ofNat (q2 + 1)) (Int32.ofNat ne)) := by
      intro L xs d K k
      refine cx_67_0 ?_
      rintro _ rfl
      rw [h72, show Int32.ofNat (nf + 1) - 1 = Int32.ofNat nf from cp_sb (b := 1) (by omega), ← hA]
      intro S2 h2
      rw [h2]
      intro x3 h3
      rw [h3, hA72]
      refine cp_166 (by decide) (cp_r1 ?_)
      rw [cp_g_at (by rw [dm_rl.2.2.2.2.2.2.2.2.1]; omega) (by decide +kernel), hp]
      intro x8 h8
      rw [h8, hA72]
      refine cp_166 (by decide) (cp_r1 ?_)
      rw [cp_g_at (by rw [dm_rl.2.2.2.2.2.2.2.2.2.1]; omega) (by decide +kernel), hsc]
      intro x9 h9
      rw [h9, hA72]
      refine cp_166 (by decide) (cp_r1 ?_)
      rw [cp_g_at (by rw [dm_rl.2.2.2.2.2.2.2.1]; omega) (by decide +kernel), hkd]
      refine ⟨fun hc => absurd hc (by decide), fun _ => ⟨fun hc => absurd hc (by decide), fun _ => ⟨fun hc => absurd hc (by decide), fun _ => ⟨fun hc => absurd hc (by decide), fun _ => ⟨fun hc => absurd hc (by decide), fun _ => ⟨fun hc => absurd hc (by decide), fun _ => ⟨fun hc => absurd hc (by decide), fun _ => ⟨fun _ => ?_, fun hc => absurd (by decide) hc⟩⟩⟩⟩⟩⟩⟩⟩
      refine cx_68_0 _ _ ?_
      refine cp_116 (m := 8) h.1.2.2.1 (by omega) (by have := h.1.2.1; omega) (cp_r1 ?_)
      refine ⟨fun _ => ?_, fun hc => absurd hk hc⟩
      refine cp_117 (m := 8) (by omega) (cp_r1 ?_)
      refine cp_118 (m := 8) (by omega) (cp_r1 ?_)
      rw [hf2]
      refine dm_15 hn la (cp_r1 ?_)
      refine kA1 L xs d _ (cp_r1 ?_)
      refine dm_14 (cp_r1 ?_)
      refine dm_9 hlB (cp_r1 ?_)
      refine cp_126 p1.1.2.2.2.2.1 (by omega) (cp_r1 ?_)
      refine cp_63 (cp_r0 ?_)
      try dsimp only [cm_sh]
      exact cp_r0 k
    have kS : dw_c 259 3 [some (.ref 83), none, none, none, none, none, none] S0 (me_ev (me_bd T ne f2.2.2.1 (dm_ce c1) (A.1 67 8)) (Int32.ofNat (2400 + (q2 + 1))) (Int32.ofNat ne)) := by
      intro L xs d K k
      refine cx_259_0 ?_
      rintro _ rfl
      rw [h59, show Int32.ofNat (nf + 1) - 1 = Int32.ofNat nf from cp_sb (b := 1) (by omega), ← hS]
      intro S2 h2
      rw [h2]
      intro x3 h3
      rw [h3, hS59]
      refine ⟨cp_in (by omega) (by decide), ?_⟩
      rw [cp_cl (n := nf) (by omega)]
      intro x4 h4
      rw [h4, hmk]
      intro x5 h5
      rw [h5]
      refine ⟨cp_in (by omega) (by decide), ?_⟩
      rw [cp_cl (n := nf) (by omega)]
      intro x6 h6
      rw [h6, hp2, cp_cl (n := 2400 + q) (by omega)]
      intro x7 h7
      rw [h7]
      refine ⟨cp_in (by omega) (by decide), ?_⟩
      rw [cp_cl (n := nf) (by omega)]
      intro x8 h8
      rw [h8, hsc2]
      intro x9 h9
      rw [h9, hgv, cp_cl (n := v) (by omega)]
      refine ⟨cp_in (by omega) (by decide), ?_⟩
      intro x10 h10
      rw [h10]
      refine ⟨fun hc => absurd hc (by decide), fun _ => ⟨fun hc => absurd hc (by decide), fun _ => ⟨fun hc => absurd hc (by decide), fun _ => ⟨fun hc => absurd hc (by decide), fun _ => ⟨fun _ => ?_, fun hc => absurd (by decide) hc⟩⟩⟩⟩⟩
      refine ⟨fun _ => ?_, fun hc => absurd hk2 hc⟩
      refine ⟨fun _ => ?_, fun hc => absurd rfl hc⟩
      refine ⟨cp_in (by omega) (by decide), ?_⟩
      intro x11 h11
      rw [h11, hv3, cp_cl (n := 2400 + q2) (by omega)]
      refine ⟨cp_in hq2 (by decide), ?_⟩
      intro x12 h12
      rw [h12, hnn2.2.2.1, hpa2]
      refine ⟨cp_in hq2 (by decide), ?_⟩
      intro x13 h13
      rw [h13, (dm_nk hnn2).2.2.1]
      refine ⟨cp_in hq (by decide), ?_⟩
      intro x14 h14
      rw [h14, hnn.2.2.2.1, hpb]
      refine kS1 L xs d _ (cp_r1 ?_)
      refine ⟨cp_in (by omega) (by decide), ?_⟩
      intro x15 h15
      rw [h15, (fS1 124 v (decide_eq_false (by omega))).1, hv4]
      refine cp_250 p1.1.2.2.2.2.2.1 (by omega) (cp_r1 ?_)
      exact cp_254 (cp_r0 (cx_259_442 _ _ _ _ _ _ k))
    exact ⟨_, _, kA, kS, cf_tr (cf_mono fA12 (fun b j h => decide_eq_true (by have h := of_decide_eq_true h; omega))) (cf_mono dw_nx_cf (fun b j h => decide_eq_true (by have h := of_decide_eq_true h; omega))), cf_tr (cf_mono fS12 (fun b j h => decide_eq_true (by have h := of_decide_eq_true h; omega))) (cf_mono dw_ev_cf (fun b j h => decide_eq_true (by have h := of_decide_eq_true h; omega))), _, n1, ne + 1, nf, nv, p3, dw_ct_cf (A := A) (fun i2 _ => (dw_nx_cf 73 i2 (decide_eq_false (by omega))).1.trans (fA12 73 i2 (decide_eq_false (by omega))).1) ⟨by omega, by omega, by omega, by omega, by omega⟩, p4⟩
  · have hk2 : ¬ S.1 121 v = 1 := fun hc => hk (tg1.mpr hc)
    have kA : dw_c 67 6 [some (.ref 57), none, none, none] A0 (cm_wI A 57 6 3) := by
      intro L xs d K k
      refine cx_67_0 ?_
      rintro _ rfl
      rw [h72, show Int32.ofNat (nf + 1) - 1 = Int32.ofNat nf from cp_sb (b := 1) (by omega), ← hA]
      intro S2 h2
      rw [h2]
      intro x3 h3
      rw [h3, hA72]
      refine cp_166 (by decide) (cp_r1 ?_)
      rw [cp_g_at (by rw [dm_rl.2.2.2.2.2.2.2.2.1]; omega) (by decide +kernel), hp]
      intro x8 h8
      rw [h8, hA72]
      refine cp_166 (by decide) (cp_r1 ?_)
      rw [cp_g_at (by rw [dm_rl.2.2.2.2.2.2.2.2.2.1]; omega) (by decide +kernel), hsc]
      intro x9 h9
      rw [h9, hA72]
      refine cp_166 (by decide) (cp_r1 ?_)
      rw [cp_g_at (by rw [dm_rl.2.2.2.2.2.2.2.1]; omega) (by decide +kernel), hkd]
      refine ⟨fun hc => absurd hc (by decide), fun _ => ⟨fun hc => absurd hc (by decide), fun _ => ⟨fun hc => absurd hc (by decide), fun _ => ⟨fun hc => absurd hc (by decide), fun _ => ⟨fun hc => absurd hc (by decide), fun _ => ⟨fun hc => absurd hc (by decide), fun _ => ⟨fun hc => absurd hc (by decide), fun _ => ⟨fun _ => ?_, fun hc => absurd (by decide) hc⟩⟩⟩⟩⟩⟩⟩⟩
      refine cx_68_0 _ _ ?_
      refine cp_116 (m := 8) h.1.2.2.1 (by omega) (by have := h.1.2.1; omega) (cp_r1 ?_)
      refine ⟨fun hc => absurd hc hk, fun _ => ?_⟩
      rintro _ rfl
      try dsimp only [cm_sh]
      exact cp_r0 k
    have kS : dw_c 259 3 [some (.ref 83), none, none, none, none, none, none] S0 (cm_wI S 83 40 3) := by
      intro L xs d K k
      refine cx_259_0 ?_
      rintro _ rfl
      rw [h59, show Int32.ofNat (nf + 1) - 1 = Int32.ofNat nf from cp_sb (b := 1) (by omega), ← hS]
      intro S2 h2
      rw [h2]
      intro x3 h3
      rw [h3, hS59]
      refine ⟨cp_in (by omega) (by decide), ?_⟩
      rw [cp_cl (n := nf) (by omega)]
      intro x4 h4
      rw [h4, hmk]
      intro x5 h5
      rw [h5]
      refine ⟨cp_in (by omega) (by decide), ?_⟩
      rw [cp_cl (n := nf) (by omega)]
      intro x6 h6
      rw [h6, hp2, cp_cl (n := 2400 + q) (by omega)]
      intro x7 h7
      rw [h7]
      refine ⟨cp_in (by omega) (by decide), ?_⟩
      rw [cp_cl (n := nf) (by omega)]
      intro x8 h8
      rw [h8, hsc2]
      intro x9 h9
      rw [h9, hgv, cp_cl (n := v) (by omega)]
      refine ⟨cp_in (by omega) (by decide), ?_⟩
      intro x10 h10
      rw [h10]
      refine ⟨fun hc => absurd hc (by decide), fun _ => ⟨fun hc => absurd hc (by decide), fun _ => ⟨fun hc => absurd hc (by decide), fun _ => ⟨fun hc => absurd hc (by decide), fun _ => ⟨fun _ => ?_, fun hc => absurd (by decide) hc⟩⟩⟩⟩⟩
      refine ⟨fun hc => absurd hc hk2, fun _ => ?_⟩
      rintro _ rfl
      exact cx_259_442 _ _ _ _ _ _ k
    exact ⟨_, _, kA, kS, cf_wI (decide_eq_true (by omega)), cf_wI (decide_eq_true (by omega)), dw_stop (o := 3) (Or.inl rfl) h ct1 (cf_wI (decide_eq_true (by omega))) (cf_wI (decide_eq_true (by omega))) (by rw [cp_wI1, if_pos ⟨rfl, rfl⟩]; rfl) (by rw [cp_wI1, if_pos ⟨rfl, rfl⟩]; rfl)⟩
theorem dw_r8 (hF : dw_F A0 S0 A S V G nc ne nf nv st lim wc sh dd v) (hn : dm_n A S V g q (ct_nd e a b c) t2) (he : e.1 = 8) (hkd : A.1 73 nf = 8) (hp : A.1 74 nf = Int32.ofNat q) (hmk : S.1 125 nf = 2) (hp2 : S.1 126 nf = Int32.ofNat (2400 + q)) (hsc : A.1 75 nf = s) (hsc2 : S.1 127 nf = s) (hs : dm_sx G ne g (ct_nd e a b c) s) : dw_QF A0 S0 A S V st lim wc sh dd (nc + dm_nb A nf + 1) (ne + 2 * dm_nb A nf + 2) (nv + dm_nb A nf + 1) (nf + 1) (dm_fw A nf) := by
  obtain ⟨hA, hS, h72, h59, h, hon, hvn, hgv, hvl, hnc, hne, hnf, hnv, h57, h63⟩ := hF
  have hA72 := h.1.2.2.2.2.2.2.1
  have hS59 := h.1.2.2.2.2.2.2.2.1
  obtain ⟨f, x, y, z, pa, pb, pc, rfl, hnn, hed, ha, hb, hc⟩ := dm_n_nd hn
  have hq : 2400 + q < 8192 := hnn.1
  obtain ⟨tg1, tg2, tg3⟩ := dw_tags hvl
  have ct1 : dw_ct A nc ne nf nv (nc + dm_nb A nf + 1) (ne + 2 * dm_nb A nf + 2) (nv + dm_nb A nf + 1) (nf + 1) (dm_fw A nf) := ⟨by omega, by omega, by omega, by omega, by omega⟩
  have la : ¬ a = .leaf := fun hl => absurd ((ct_wf_nd hn.2.2.2.1.1).2.1.mp hl) (by rw [ct_ar_of.1 (by rw [he]; decide)]; omega)
  have lb : ¬ b = .leaf := fun hl => absurd ((ct_wf_nd hn.2.2.2.1.1).2.2.1.mp hl) (by rw [ct_ar_of.1 (by rw [he]; decide)]; omega)
  obtain ⟨hpb, hnb⟩ := hb lb
  have h9 := h.1.2.1
  have hxy := dm_nm1 hn (dt_w_nd hn.2.2.2.1).1 hed (Or.inr (Or.inr (Or.inr (Or.inr (Or.inl he)))))
  have fA1 : cf_W (fun b j => decide (65 ≤ b ∧ b ≤ 68 ∧ j = nc ∨ b = 64 ∧ j = 4)) A (de_mf A nc) := cf_tr (cf_wI (decide_eq_true (by omega))) (cf_mono de_fi_cf (fun b j h => decide_eq_true (by have h := of_decide_eq_true h; omega)))
  have fS0 := me_cl_cf (S := S) (k := nc - 1) (q := -1) (s := -1)
  have fS1 : cf_W (fun b j => decide (114 ≤ b ∧ b ≤ 117 ∧ j = nc - 1 ∨ b = 83 ∧ j = 45)) S (cm_wI (me_cl S (nc - 1) (-1) (-1)) 116 (nc - 1) (Int32.ofNat v)) := cf_tr me_cl_cf (cf_wI (decide_eq_true (by omega)))
  have hce : dm_ce (Int32.ofNat nc) = Int32.ofNat (nc - 1) := by rw [dm_ce_at (by omega), show dm_mc nc = nc - 1 by unfold dm_mc; rw [if_neg (by omega)]]
  have p1 := dm_P_mf h hvn hvl
  have p2 := dm_P_bd p1 hn.1 hxy (⟨nc, by omega, h9, rfl⟩ : dm_cr (nc + 1) (Int32.ofNat nc)) hs.1
  have hs2 := dm_G2_sx (g := g) (dm_lb hs (Or.inr (Or.inr he)))
  rw [hce] at p2
  have fA2 := de_bd_cf (A := de_mf A nc) (ne := ne) (x := e.2.2.1) (c := Int32.ofNat nc) (o := s)
  have fS2 := me_bd_cf (S := cm_wI (me_cl S (nc - 1) (-1) (-1)) 116 (nc - 1) (Int32.ofNat v)) (ne := ne) (y := f.2.2.1) (c := Int32.ofNat (nc - 1)) (o := s)
  have fA12 : cf_W (fun b j => decide (64 ≤ b ∧ b ≤ 71)) A (de_bd (de_mf A nc) ne e.2.2.1 (Int32.ofNat nc) s) := cf_tr (cf_mono fA1 (fun b j h => decide_eq_true (by have h := of_decide_eq_true h; omega))) (cf_mono fA2 (fun b j h => decide_eq_true (by have h := of_decide_eq_true h; omega)))
  have fS12 : cf_W (fun b j => decide (b = 83 ∧ 45 ≤ j ∧ j ≤ 50 ∨ 114 ≤ b ∧ b ≤ 120)) S (me_bd (cm_wI (me_cl S (nc - 1) (-1) (-1)) 116 (nc - 1) (Int32.ofNat v)) ne f.2.2.1 (Int32.ofNat (nc - 1)) s) := cf_tr (cf_mono fS1 (fun b j h => decide_eq_true (by have h := of_decide_eq_true h; omega))) (cf_mono fS2 (fun b j h => decide_eq_true (by have h := of_decide_eq_true h; omega)))
  have hnA2 := dm_n_cf fA12 (fun b j q1 q2 => decide_eq_false (by omega)) (cf_rfl (W := fun _ _ => false) (S := S)) (fun b x q1 q2 q3 q4 => rfl) hn
  have hnb2 := dm_n_cf fA12 (fun b j q1 q2 => decide_eq_false (by omega)) fS12 (fun b x q1 q2 q3 q4 => decide_eq_false (by omega)) hnb
  obtain ⟨p3, p4⟩ := dw_evn p2 ⟨(fA12 57 6 (decide_eq_false (by omega))).1.trans hon.1, (fS12 83 40 (decide_eq_false (by omega))).1.trans hon.2⟩ hnb2 hs2
  have kA : dw_c 67 6 [some (.ref 57), none, none, none] A0 (de_nx (de_bd (de_mf A nc) ne e.2.2.1 (Int32.ofNat nc) s) (Int32.ofNat (q + 1 + ct_sz a)) (Int32.ofNat ne)) := by
    intro L xs d K k
    refine cx_67_0 ?_
    rintro _ rfl
    rw [h72, show Int32.ofNat (nf + 1) - 1 = Int32.ofNat nf from cp_sb (b := 1) (by omega), ← hA]
    intro S2 h2
    rw [h2]
    intro x3 h3
    rw [h3, hA72]
    refine cp_166 (by decide) (cp_r1 ?_)
    rw [cp_g_at (by rw [dm_rl.2.2.2.2.2.2.2.2.1]; omega) (by decide +kernel), hp]
    intro x8 h8
    rw [h8, hA72]
    refine cp_166 (by decide) (cp_r1 ?_)
    rw [cp_g_at (by rw [dm_rl.2.2.2.2.2.2.2.2.2.1]; omega) (by decide +kernel), hsc]
    intro x9 h9
    rw [h9, hA72]
    refine cp_166 (by decide) (cp_r1 ?_)
    rw [cp_g_at (by rw [dm_rl.2.2.2.2.2.2.2.1]; omega) (by decide +kernel), hkd]
    refine ⟨fun hc => absurd hc (by decide), fun _ => ⟨fun hc => absurd hc (by decide), fun _ => ⟨fun hc => absurd hc (by decide), fun _ => ⟨fun hc => absurd hc (by decide), fun _ => ⟨fun hc => absurd hc (by decide), fun _ => ⟨fun hc => absurd hc (by decide), fun _ => ⟨fun hc => absurd hc (by decide), fun _ => ⟨fun hc => absurd hc (by decide), fun _ => ⟨fun hc => absurd hc (by decide), fun _ => ⟨fun hc => absurd hc (by decide), fun _ => ⟨fun _ => ?_, fun hc => absurd (by decide) hc⟩⟩⟩⟩⟩⟩⟩⟩⟩⟩⟩
    refine dm_9 hn (cp_r1 ?_)
    refine cp_124 h.1.2.2.1 (by omega) h.1.2.1 (cp_r1 ?_)
    refine cp_126 p1.1.2.2.2.2.1 (by omega) (cp_r1 ?_)
    refine dm_15 hnA2 la (cp_r1 ?_)
    exact cp_63 (cp_r0 k)
  have kS : dw_c 259 3 [some (.ref 83), none, none, none, none, none, none] S0 (me_ev (me_bd (cm_wI (me_cl S (nc - 1) (-1) (-1)) 116 (nc - 1) (Int32.ofNat v)) ne f.2.2.1 (Int32.ofNat (nc - 1)) s) (Int32.ofNat (2400 + (q + 1 + ct_sz a))) (Int32.ofNat ne)) := by
    intro L xs d K k
    refine cx_259_0 ?_
    rintro _ rfl
    rw [h59, show Int32.ofNat (nf + 1) - 1 = Int32.ofNat nf from cp_sb (b := 1) (by omega), ← hS]
    intro S2 h2
    rw [h2]
    intro x3 h3
    rw [h3, hS59]
    refine ⟨cp_in (by omega) (by decide), ?_⟩
    rw [cp_cl (n := nf) (by omega)]
    intro x4 h4
    rw [h4, hmk]
    intro x5 h5
    rw [h5]
    refine ⟨cp_in (by omega) (by decide), ?_⟩
    rw [cp_cl (n := nf) (by omega)]
    intro x6 h6
    rw [h6, hp2, cp_cl (n := 2400 + q) (by omega)]
    intro x7 h7
    rw [h7]
    refine ⟨cp_in (by omega) (by decide), ?_⟩
    rw [cp_cl (n := nf) (by omega)]
    intro x8 h8
    rw [h8, hsc2]
    intro x9 h9
    rw [h9, hgv, cp_cl (n := v) (by omega)]
    refine ⟨cp_in (by omega) (by decide), ?_⟩
    intro x10 h10
    rw [h10]
    refine ⟨fun hc => absurd hc (by decide), fun _ => ⟨fun _ => ?_, fun hc => absurd (by decide) hc⟩⟩
    refine cp_249 (k := nc - 1) h.1.2.2.2.1 (by omega) (cp_r1 ?_)
    refine ⟨cp_in (by omega) (by decide), ?_⟩
    rw [cp_cl (n := nc - 1) (by omega)]
    intro S3 h3
    rw [h3]
    refine ⟨cp_in hq (by decide), ?_⟩
    intro x11 h11
    rw [h11, (fS1 95 (2400 + q) (decide_eq_false (by omega))).1, hnn.2.2.2.1, hpb]
    refine ⟨cp_in hq (by decide), ?_⟩
    intro x12 h12
    rw [h12, (fS1 97 (2400 + q) (decide_eq_false (by omega))).1, (dm_nk hnn).2.2.1]
    refine cp_250 p1.1.2.2.2.2.2.1 (by omega) (cp_r1 ?_)
    exact cp_254 (cp_r0 (cx_259_442 _ _ _ _ _ _ k))
  exact ⟨_, _, kA, kS, cf_tr (cf_mono fA12 (fun b j h => decide_eq_true (by have h := of_decide_eq_true h; omega))) (cf_mono dw_nx_cf (fun b j h => decide_eq_true (by have h := of_decide_eq_true h; omega))), cf_tr (cf_mono fS12 (fun b j h => decide_eq_true (by have h := of_decide_eq_true h; omega))) (cf_mono dw_ev_cf (fun b j h => decide_eq_true (by have h := of_decide_eq_true h; omega))), _, nc + 1, ne + 1, nf, nv, p3, dw_ct_cf (A := A) (fun i2 _ => (dw_nx_cf 73 i2 (decide_eq_false (by omega))).1.trans (fA12 73 i2 (decide_eq_false (by omega))).1) ⟨by omega, by omega, by omega, by omega, by omega⟩, p4⟩
theorem dw_r12 (hF : dw_F A0 S0 A S V G nc ne nf nv st lim wc sh dd v) (hn : dm_n A S V g q (ct_nd e a b c) t2) (he : e.1 = 12) (hkd : A.1 73 nf = 12) (hp : A.1 74 nf = Int32.ofNat q) (hmk : S.1 125 nf = 5) (hp2 : S.1 126 nf = Int32.ofNat (2400 + q)) (hsc : A.1 75 nf = s) (hsc2 : S.1 127 nf = s) (hs : dm_sx G ne g (ct_nd e a b c) s) : dw_QF A0 S0 A S V st lim wc sh dd (nc + dm_nb A nf + 1) (ne + 2 * dm_nb A nf + 2) (nv + dm_nb A nf + 1) (nf + 1) (dm_fw A nf) := by
  obtain ⟨hA, hS, h72, h59, h, hon, hvn, hgv, hvl, hnc, hne, hnf, hnv, h57, h63⟩ := hF
  have hA72 := h.1.2.2.2.2.2.2.1
  have hS59 := h.1.2.2.2.2.2.2.2.1
  obtain ⟨f, x, y, z, pa, pb, pc, rfl, hnn, hed, ha, hb, hc⟩ := dm_n_nd hn
  have hq : 2400 + q < 8192 := hnn.1
  obtain ⟨tg1, tg2, tg3⟩ := dw_tags hvl
  have ct1 : dw_ct A nc ne nf nv (nc + dm_nb A nf + 1) (ne + 2 * dm_nb A nf + 2) (nv + dm_nb A nf + 1) (nf + 1) (dm_fw A nf) := ⟨by omega, by omega, by omega, by omega, by omega⟩
  have la : ¬ a = .leaf := fun hl => absurd ((ct_wf_nd hn.2.2.2.1.1).2.1.mp hl) (by rw [ct_ar_of.2.1 (by rw [he]; decide)]; omega)
  have lb : ¬ b = .leaf := fun hl => absurd ((ct_wf_nd hn.2.2.2.1.1).2.2.1.mp hl) (by rw [ct_ar_of.2.1 (by rw [he]; decide)]; omega)
  have lc : ¬ c = .leaf := fun hl => absurd ((ct_wf_nd hn.2.2.2.1.1).2.2.2.1.mp hl) (by rw [ct_ar_of.2.1 (by rw [he]; decide)]; omega)
  obtain ⟨hpb, hnb⟩ := hb lb
  obtain ⟨hpc, hnc2⟩ := hc lc
  by_cases hk : A.1 65 8 = 10
  · have hk2 := tg3.mp (Or.inl hk)
    have hnum : S.2 122 v = 0 := by
      rcases hvl with ⟨h2, _⟩ | ⟨h2, _⟩ | ⟨_, _, h2⟩ | ⟨h2, _⟩
      · rw [hk] at h2; exact absurd h2 (by decide)
      · rw [hk] at h2; exact absurd h2 (by decide)
      · exact h2
      · rw [hk] at h2; exact absurd h2 (by decide)
    obtain ⟨p1, p2⟩ := dw_evn h hon hnb (dm_sx_b hs (by rw [he]; decide))
    have kA : dw_c 67 6 [some (.ref 57), none, none, none] A0 (de_nx A (Int32.ofNat (q + 1 + ct_sz a)) s) := by
      intro L xs d K k
      refine cx_67_0 ?_
      rintro _ rfl
      rw [h72, show Int32.ofNat (nf + 1) - 1 = Int32.ofNat nf from cp_sb (b := 1) (by omega), ← hA]
      intro S2 h2
      rw [h2]
      intro x3 h3
      rw [h3, hA72]
      refine cp_166 (by decide) (cp_r1 ?_)
      rw [cp_g_at (by rw [dm_rl.2.2.2.2.2.2.2.2.1]; omega) (by decide +kernel), hp]
      intro x8 h8
      rw [h8, hA72]
      refine cp_166 (by decide) (cp_r1 ?_)
      rw [cp_g_at (by rw [dm_rl.2.2.2.2.2.2.2.2.2.1]; omega) (by decide +kernel), hsc]
      intro x9 h9
      rw [h9, hA72]
      refine cp_166 (by decide) (cp_r1 ?_)
      rw [cp_g_at (by rw [dm_rl.2.2.2.2.2.2.2.1]; omega) (by decide +kernel), hkd]
      refine ⟨fun hc => absurd hc (by decide), fun _ => ⟨fun hc => absurd hc (by decide), fun _ => ⟨fun hc => absurd hc (by decide), fun _ => ⟨fun hc => absurd hc (by decide), fun _ => ⟨fun hc => absurd hc (by decide), fun _ => ⟨fun hc => absurd hc (by decide), fun _ => ⟨fun hc => absurd hc (by decide), fun _ => ⟨fun hc => absurd hc (by decide), fun _ => ⟨fun hc => absurd hc (by decide), fun _ => ⟨fun hc => absurd hc (by decide), fun _ => ⟨fun hc => absurd hc (by decide), fun _ => ⟨fun hc => absurd hc (by decide), fun _ => ⟨fun hc => absurd hc (by decide), fun _ => ⟨fun hc => absurd hc (by decide), fun _ => ⟨fun _ => ?_, fun hc => absurd (by decide) hc⟩⟩⟩⟩⟩⟩⟩⟩⟩⟩⟩⟩⟩⟩⟩
      refine cx_71_0 _ _ ?_
      refine cp_116 (m := 8) h.1.2.2.1 (by omega) (by have := h.1.2.1; omega) (cp_r1 ?_)
      refine ⟨fun _ => ?_, fun hc => absurd hk hc⟩
      refine dm_15 hn la (cp_r1 ?_)
      refine cp_63 (cp_r0 ?_)
      try dsimp only [cm_sh]
      exact cp_r0 k
    have kS : dw_c 259 3 [some (.ref 83), none, none, none, none, none, none] S0 (me_ev S (Int32.ofNat (2400 + (q + 1 + ct_sz a))) s) := by
      intro L xs d K k
      refine cx_259_0 ?_
      rintro _ rfl
      rw [h59, show Int32.ofNat (nf + 1) - 1 = Int32.ofNat nf from cp_sb (b := 1) (by omega), ← hS]
      intro S2 h2
      rw [h2]
      intro x3 h3
      rw [h3, hS59]
      refine ⟨cp_in (by omega) (by decide), ?_⟩
      rw [cp_cl (n := nf) (by omega)]
      intro x4 h4
      rw [h4, hmk]
      intro x5 h5
      rw [h5]
      refine ⟨cp_in (by omega) (by decide), ?_⟩
      rw [cp_cl (n := nf) (by omega)]
      intro x6 h6
      rw [h6, hp2, cp_cl (n := 2400 + q) (by omega)]
      intro x7 h7
      rw [h7]
      refine ⟨cp_in (by omega) (by decide), ?_⟩
      rw [cp_cl (n := nf) (by omega)]
      intro x8 h8
      rw [h8, hsc2]
      intro x9 h9
      rw [h9, hgv, cp_cl (n := v) (by omega)]
      refine ⟨cp_in (by omega) (by decide), ?_⟩
      intro x10 h10
      rw [h10]
      refine ⟨fun hc => absurd hc (by decide), fun _ => ⟨fun hc => absurd hc (by decide), fun _ => ⟨fun hc => absurd hc (by decide), fun _ => ⟨fun hc => absurd hc (by decide), fun _ => ⟨fun hc => absurd hc (by decide), fun _ => ⟨fun _ => ?_, fun hc => absurd (by decide) hc⟩⟩⟩⟩⟩⟩
      refine ⟨fun _ => ?_, fun hc => absurd hk2 hc⟩
      refine ⟨fun hc => absurd hc (by decide), fun _ => ⟨fun hc => absurd hc (by decide), fun _ => ?_⟩⟩
      refine ⟨cp_in (by omega) (by decide), ?_⟩
      intro x11 h11
      rw [h11, hnum]
      refine ⟨fun _ => ?_, fun hc => absurd (cu_lg.mpr rfl) hc⟩
      refine ⟨cp_in hq (by decide), ?_⟩
      intro x12 h12
      rw [h12, hnn.2.2.2.1, hpb]
      exact cp_254 (cp_r0 (cx_259_442 _ _ _ _ _ _ k))
    exact ⟨_, _, kA, kS, cf_mono dw_nx_cf (fun b j h => decide_eq_true (by have h := of_decide_eq_true h; omega)), cf_mono dw_ev_cf (fun b j h => decide_eq_true (by have h := of_decide_eq_true h; omega)), G, nc, ne, nf, nv, p1, dw_ct_cf (A := A) (fun i2 _ => (dw_nx_cf 73 i2 (decide_eq_false (by omega))).1) ct1, p2⟩
  by_cases hk1 : A.1 65 8 = 11
  · have hk2 := tg3.mp (Or.inr hk1)
    have hlist : S.2 122 v = 1 ∧ S.1 123 v = dm_ce (A.1 66 8) ∧ S.1 124 v = dm_ce (A.1 67 8) ∧ dm_cr nc (A.1 66 8) ∧ dm_cr nc (A.1 67 8) := by
      rcases hvl with ⟨h2, _⟩ | ⟨h2, _⟩ | ⟨h2, _⟩ | ⟨_, _, h2⟩
      · rw [hk1] at h2; exact absurd h2 (by decide)
      · rw [hk1] at h2; exact absurd h2 (by decide)
      · rw [hk1] at h2; exact absurd h2 (by decide)
      · exact h2
    obtain ⟨hnum, hv3, hv4, hr1, hr2⟩ := hlist
    have hnw := (dt_w_nd hn.2.2.2.1).1
    have hxy := dm_nm1 hn hnw hed (Or.inr (Or.inr (Or.inr (Or.inr (Or.inr he)))))
    have hxy2 : dm_R V g e.2.2.2 f.2.2.2 := by
      rcases hed.2.2.2 with h2 | h2
      · exact absurd h2.1 (hnw.2.1 he).2.1
      · exact h2.2.2
    have p1 := dm_P_bd h hn.1 hxy hr1 hs.1
    have p2 := dm_P_bd p1 hn.1 hxy2 hr2 dm_G2_sc
    have hlc := dm_lc hs he
    have hs2 : dm_sx (dm_G2 (dm_G2 G ne g e.2.2.1 s) (ne + 1) g e.2.2.2 (Int32.ofNat ne)) (ne + 1 + 1) g c (Int32.ofNat (ne + 1)) := ⟨dm_G2_sc, hlc.1, ct_lx_mono c hlc.1 _ _ (fun y hy => dm_G2_bs (Or.imp (fun hz => dm_G2_bs hz) id hy)) hlc.2⟩
    have fA1 := de_bd_cf (A := A) (ne := ne) (x := e.2.2.1) (c := A.1 66 8) (o := s)
    have fS1 := me_bd_cf (S := S) (ne := ne) (y := f.2.2.1) (c := dm_ce (A.1 66 8)) (o := s)
    have fA2 := de_bd_cf (A := de_bd A ne e.2.2.1 (A.1 66 8) s) (ne := ne + 1) (x := e.2.2.2) (c := A.1 67 8) (o := Int32.ofNat ne)
    have fS2 := me_bd_cf (S := me_bd S ne f.2.2.1 (dm_ce (A.1 66 8)) s) (ne := ne + 1) (y := f.2.2.2) (c := dm_ce (A.1 67 8)) (o := Int32.ofNat ne)
    have fA12 : cf_W (fun b j => decide (64 ≤ b ∧ b ≤ 64 ∨ 69 ≤ b ∧ b ≤ 71)) A (de_bd (de_bd A ne e.2.2.1 (A.1 66 8) s) (ne + 1) e.2.2.2 (A.1 67 8) (Int32.ofNat ne)) := cf_tr (cf_mono fA1 (fun b j h => decide_eq_true (by have h := of_decide_eq_true h; omega))) (cf_mono fA2 (fun b j h => decide_eq_true (by have h := of_decide_eq_true h; omega)))
    have fS12 : cf_W (fun b j => decide (b = 83 ∧ 45 ≤ j ∧ j ≤ 50 ∨ 114 ≤ b ∧ b ≤ 120)) S (me_bd (me_bd S ne f.2.2.1 (dm_ce (A.1 66 8)) s) (ne + 1) f.2.2.2 (dm_ce (A.1 67 8)) (Int32.ofNat ne)) := cf_tr (cf_mono fS1 (fun b j h => decide_eq_true (by have h := of_decide_eq_true h; omega))) (cf_mono fS2 (fun b j h => decide_eq_true (by have h := of_decide_eq_true h; omega)))
    have hnA1 := dm_n_cf fA1 (fun b j q1 q2 => decide_eq_false (by omega)) (cf_rfl (W := fun _ _ => false) (S := S)) (fun b x q1 q2 q3 q4 => rfl) hn
    have hnA2 := dm_n_cf fA12 (fun b j q1 q2 => decide_eq_false (by omega)) (cf_rfl (W := fun _ _ => false) (S := S)) (fun b x q1 q2 q3 q4 => rfl) hn
    have hnc3 := dm_n_cf fA12 (fun b j q1 q2 => decide_eq_false (by omega)) fS12 (fun b x q1 q2 q3 q4 => decide_eq_false (by omega)) hnc2
    obtain ⟨p3, p4⟩ := dw_evn p2 ⟨(fA12 57 6 (decide_eq_false (by omega))).1.trans hon.1, (fS12 83 40 (decide_eq_false (by omega))).1.trans hon.2⟩ hnc3 hs2
    have kA : dw_c 67 6 [some (.ref 57), none, none, none] A0 (de_nx (de_bd (de_bd A ne e.2.2.1 (A.1 66 8) s) (ne + 1) e.2.2.2 (A.1 67 8) (Int32.ofNat ne)) (Int32.ofNat (q + 1 + ct_sz a + ct_sz b)) (Int32.ofNat (ne + 1))) := by
      intro L xs d K k
      refine cx_67_0 ?_
      rintro _ rfl
      rw [h72, show Int32.ofNat (nf + 1) - 1 = Int32.ofNat nf from cp_sb (b := 1) (by omega), ← hA]
      intro S2 h2
      rw [h2]
      intro x3 h3
      rw [h3, hA72]
      refine cp_166 (by decide) (cp_r1 ?_)
      rw [cp_g_at (by rw [dm_rl.2.2.2.2.2.2.2.2.1]; omega) (by decide +kernel), hp]
      intro x8 h8
      rw [h8, hA72]
      refine cp_166 (by decide) (cp_r1 ?_)
      rw [cp_g_at (by rw [dm_rl.2.2.2.2.2.2.2.2.2.1]; omega) (by decide +kernel), hsc]
      intro x9 h9
      rw [h9, hA72]
      refine cp_166 (by decide) (cp_r1 ?_)
      rw [cp_g_at (by rw [dm_rl.2.2.2.2.2.2.2.1]; omega) (by decide +kernel), hkd]
      refine ⟨fun hc => absurd hc (by decide), fun _ => ⟨fun hc => absurd hc (by decide), fun _ => ⟨fun hc => absurd hc (by decide), fun _ => ⟨fun hc => absurd hc (by decide), fun _ => ⟨fun hc => absurd hc (by decide), fun _ => ⟨fun hc => absurd hc (by decide), fun _ => ⟨fun hc => absurd hc (by decide), fun _ => ⟨fun hc => absurd hc (by decide), fun _ => ⟨fun hc => absurd hc (by decide), fun _ => ⟨fun hc => absurd hc (by decide), fun _ => ⟨fun hc => absurd hc (by decide), fun _ => ⟨fun hc => absurd hc (by decide), fun _ => ⟨fun hc => absurd hc (by decide), fun _ => ⟨fun hc => absurd hc (by decide), fun _ => ⟨fun _ => ?_, fun hc => absurd (by decide) hc⟩⟩⟩⟩⟩⟩⟩⟩⟩⟩⟩⟩⟩⟩⟩
      refine cx_71_0 _ _ ?_
      refine cp_116 (m := 8) h.1.2.2.1 (by omega) (by have := h.1.2.1; omega) (cp_r1 ?_)
      refine ⟨fun hc => absurd hc hk, fun _ => ⟨fun _ => ?_, fun hc => absurd hk1 hc⟩⟩
      refine dm_9 hn (cp_r1 ?_)
      refine cp_117 (m := 8) (by omega) (cp_r1 ?_)
      refine cp_126 h.1.2.2.2.2.1 (by omega) (cp_r1 ?_)
      refine dm_10 hnA1 (cp_r1 ?_)
      refine cp_118 (m := 8) (by omega) (cp_r1 ?_)
      rw [(fA1 67 8 (decide_eq_false (by omega))).1]
      refine cp_126 p1.1.2.2.2.2.1 (by omega) (cp_r1 ?_)
      refine dm_16 hnA2 la lb (cp_r1 ?_)
      refine cp_63 (cp_r0 ?_)
      try dsimp only [cm_sh]
      exact cp_r0 k
    have kS : dw_c 259 3 [some (.ref 83), none, none, none, none, none, none] S0 (me_ev (me_bd (me_bd S ne f.2.2.1 (dm_ce (A.1 66 8)) s) (ne + 1) f.2.2.2 (dm_ce (A.1 67 8)) (Int32.ofNat ne)) (Int32.ofNat (2400 + (q + 1 + ct_sz a + ct_sz b))) (Int32.ofNat (ne + 1))) := by
      intro L xs d K k
      refine cx_259_0 ?_
      rintro _ rfl
      rw [h59, show Int32.ofNat (nf + 1) - 1 = Int32.ofNat nf from cp_sb (b := 1) (by omega), ← hS]
      intro S2 h2
      rw [h2]
      intro x3 h3
      rw [h3, hS59]
      refine ⟨cp_in (by omega) (by decide), ?_⟩
      rw [cp_cl (n := nf) (by omega)]
      intro x4 h4
      rw [h4, hmk]
      intro x5 h5
      rw [h5]
      refine ⟨cp_in (by omega) (by decide), ?_⟩
      rw [cp_cl (n := nf) (by omega)]
      intro x6 h6
      rw [h6, hp2, cp_cl (n := 2400 + q) (by omega)]
      intro x7 h7
      rw [h7]
      refine ⟨cp_in (by omega) (by decide), ?_⟩
      rw [cp_cl (n := nf) (by omega)]
      intro x8 h8
      rw [h8, hsc2]
      intro x9 h9
      rw [h9, hgv, cp_cl (n := v) (by omega)]
      refine ⟨cp_in (by omega) (by decide), ?_⟩
      intro x10 h10
      rw [h10]
      refine ⟨fun hc => absurd hc (by decide), fun _ => ⟨fun hc => absurd hc (by decide), fun _ => ⟨fun hc => absurd hc (by decide), fun _ => ⟨fun hc => absurd hc (by decide), fun _ => ⟨fun hc => absurd hc (by decide), fun _ => ⟨fun _ => ?_, fun hc => absurd (by decide) hc⟩⟩⟩⟩⟩⟩
      refine ⟨fun _ => ?_, fun hc => absurd hk2 hc⟩
      refine ⟨fun hc => absurd hc (by decide), fun _ => ⟨fun hc => absurd hc (by decide), fun _ => ?_⟩⟩
      refine ⟨cp_in (by omega) (by decide), ?_⟩
      intro x11 h11
      rw [h11, hnum]
      refine ⟨fun hc => absurd (cu_lg.mp hc) (by decide), fun _ => ?_⟩
      refine ⟨cp_in hq (by decide), ?_⟩
      intro x12 h12
      rw [h12, hnn.2.2.2.2, hpc]
      refine ⟨cp_in hq (by decide), ?_⟩
      intro x13 h13
      rw [h13, (dm_nk hnn).2.2.2]
      refine ⟨cp_in (by omega) (by decide), ?_⟩
      intro x14 h14
      rw [h14, hv4]
      refine ⟨cp_in hq (by decide), ?_⟩
      intro x15 h15
      rw [h15, (dm_nk hnn).2.2.1]
      refine ⟨cp_in (by omega) (by decide), ?_⟩
      intro x16 h16
      rw [h16, hv3]
      refine cp_250 h.1.2.2.2.2.2.1 (by omega) (cp_r1 ?_)
      refine cp_250 p1.1.2.2.2.2.2.1 (by omega) (cp_r1 ?_)
      exact cp_254 (cp_r0 (cx_259_442 _ _ _ _ _ _ k))
    exact ⟨_, _, kA, kS, cf_tr (cf_mono fA12 (fun b j h => decide_eq_true (by have h := of_decide_eq_true h; omega))) (cf_mono dw_nx_cf (fun b j h => decide_eq_true (by have h := of_decide_eq_true h; omega))), cf_tr (cf_mono fS12 (fun b j h => decide_eq_true (by have h := of_decide_eq_true h; omega))) (cf_mono dw_ev_cf (fun b j h => decide_eq_true (by have h := of_decide_eq_true h; omega))), _, nc, ne + 2, nf, nv, p3, dw_ct_cf (A := A) (fun i2 _ => (dw_nx_cf 73 i2 (decide_eq_false (by omega))).1.trans (fA12 73 i2 (decide_eq_false (by omega))).1) ⟨by omega, by omega, by omega, by omega, by omega⟩, p4⟩
  have hk2 : ¬ S.1 121 v = 2 := fun hc => (tg3.mpr hc).elim hk hk1
  have kA : dw_c 67 6 [some (.ref 57), none, none, none] A0 (cm_wI A 57 6 3) := by
    intro L xs d K k
    refine cx_67_0 ?_
    rintro _ rfl
    rw [h72, show Int32.ofNat (nf + 1) - 1 = Int32.ofNat nf from cp_sb (b := 1) (by omega), ← hA]
    intro S2 h2
    rw [h2]
    intro x3 h3
    rw [h3, hA72]
    refine cp_166 (by decide) (cp_r1 ?_)
    rw [cp_g_at (by rw [dm_rl.2.2.2.2.2.2.2.2.1]; omega) (by decide +kernel), hp]
    intro x8 h8
    rw [h8, hA72]
    refine cp_166 (by decide) (cp_r1 ?_)
    rw [cp_g_at (by rw [dm_rl.2.2.2.2.2.2.2.2.2.1]; omega) (by decide +kernel), hsc]
    intro x9 h9
    rw [h9, hA72]
    refine cp_166 (by decide) (cp_r1 ?_)
    rw [cp_g_at (by rw [dm_rl.2.2.2.2.2.2.2.1]; omega) (by decide +kernel), hkd]
    refine ⟨fun hc => absurd hc (by decide), fun _ => ⟨fun hc => absurd hc (by decide), fun _ => ⟨fun hc => absurd hc (by decide), fun _ => ⟨fun hc => absurd hc (by decide), fun _ => ⟨fun hc => absurd hc (by decide), fun _ => ⟨fun hc => absurd hc (by decide), fun _ => ⟨fun hc => absurd hc (by decide), fun _ => ⟨fun hc => absurd hc (by decide), fun _ => ⟨fun hc => absurd hc (by decide), fun _ => ⟨fun hc => absurd hc (by decide), fun _ => ⟨fun hc => absurd hc (by decide), fun _ => ⟨fun hc => absurd hc (by decide), fun _ => ⟨fun hc => absurd hc (by decide), fun _ => ⟨fun hc => absurd hc (by decide), fun _ => ⟨fun _ => ?_, fun hc => absurd (by decide) hc⟩⟩⟩⟩⟩⟩⟩⟩⟩⟩⟩⟩⟩⟩⟩
    refine cx_71_0 _ _ ?_
    refine cp_116 (m := 8) h.1.2.2.1 (by omega) (by have := h.1.2.1; omega) (cp_r1 ?_)
    refine ⟨fun hc => absurd hc hk, fun _ => ⟨fun hc => absurd hc hk1, fun _ => ?_⟩⟩
    rintro _ rfl
    try dsimp only [cm_sh]
    exact cp_r0 k
  have kS : dw_c 259 3 [some (.ref 83), none, none, none, none, none, none] S0 (cm_wI S 83 40 3) := by
    intro L xs d K k
    refine cx_259_0 ?_
    rintro _ rfl
    rw [h59, show Int32.ofNat (nf + 1) - 1 = Int32.ofNat nf from cp_sb (b := 1) (by omega), ← hS]
    intro S2 h2
    rw [h2]
    intro x3 h3
    rw [h3, hS59]
    refine ⟨cp_in (by omega) (by decide), ?_⟩
    rw [cp_cl (n := nf) (by omega)]
    intro x4 h4
    rw [h4, hmk]
    intro x5 h5
    rw [h5]
    refine ⟨cp_in (by omega) (by decide), ?_⟩
    rw [cp_cl (n := nf) (by omega)]
    intro x6 h6
    rw [h6, hp2, cp_cl (n := 2400 + q) (by omega)]
    intro x7 h7
    rw [h7]
    refine ⟨cp_in (by omega) (by decide), ?_⟩
    rw [cp_cl (n := nf) (by omega)]
    intro x8 h8
    rw [h8, hsc2]
    intro x9 h9
    rw [h9, hgv, cp_cl (n := v) (by omega)]
    refine ⟨cp_in (by omega) (by decide), ?_⟩
    intro x10 h10
    rw [h10]
    refine ⟨fun hc => absurd hc (by decide), fun _ => ⟨fun hc => absurd hc (by decide), fun _ => ⟨fun hc => absurd hc (by decide), fun _ => ⟨fun hc => absurd hc (by decide), fun _ => ⟨fun hc => absurd hc (by decide), fun _ => ⟨fun _ => ?_, fun hc => absurd (by decide) hc⟩⟩⟩⟩⟩⟩
    refine ⟨fun hc => absurd hc hk2, fun _ => ?_⟩
    rintro _ rfl
    exact cx_259_442 _ _ _ _ _ _ k
  exact ⟨_, _, kA, kS, cf_wI (decide_eq_true (by omega)), cf_wI (decide_eq_true (by omega)), dw_stop (o := 3) (Or.inl rfl) h ct1 (cf_wI (decide_eq_true (by omega))) (cf_wI (decide_eq_true (by omega))) (by rw [cp_wI1, if_pos ⟨rfl, rfl⟩]; rfl) (by rw [cp_wI1, if_pos ⟨rfl, rfl⟩]; rfl)⟩
end DMa28
