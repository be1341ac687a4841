/-! ## a27 the run machine: frames gone on with, both sides -/
/-- all that holds as a frame is gone on with; A0 and S0 are ahead of its being taken off -/
def dw_F (A0 S0 A S : cm_S) (V : Nat → ct_T) (G : dm_Gs) (nc ne nf nv st lim wc sh dd v : Nat) : Prop := A = cm_wI A0 72 4 (Int32.ofNat nf) ∧ S = cm_wI S0 83 59 (Int32.ofNat nf) ∧ A0.1 72 4 = Int32.ofNat (nf + 1) ∧ S0.1 83 59 = Int32.ofNat (nf + 1) ∧ dm_P A S V G nc ne nf nv st lim wc sh dd ∧ dw_on A S ∧ v < nv ∧ S.1 83 65 = Int32.ofNat v ∧ dm_vl A S V G ne nc (A.1 65 8) (A.1 66 8) (A.1 67 8) (A.2 68 8) v ∧ nc + 2 ≤ 8009 ∧ ne + 2 < 8000 ∧ nf + 1 < 4064 ∧ nv + 1 < 8192 ∧ A.1 57 9 = 0 ∧ S.1 83 63 = -1
def dw_QF (A0 S0 A S : cm_S) (V : Nat → ct_T) (st lim wc sh dd b1 b2 b3 b4 b5 : Nat) : Prop := dw_T (dw_c 67 6 [some (.ref 57), none, none, none] A0) (dw_c 259 3 [some (.ref 83), none, none, none, none, none, none] S0) A S V st lim wc sh dd b1 b2 b3 b4 b5
theorem dw_tags {A S : cm_S} {V : Nat → ct_T} {G : dm_Gs} {nc ne v : Nat} {kd f s : Int32} {num : Int64} (h : dm_vl A S V G ne nc kd f s num v) : (kd = 4 ↔ S.1 121 v = 1) ∧ (kd = 1 ↔ S.1 121 v = 0) ∧ ((kd = 10 ∨ kd = 11) ↔ S.1 121 v = 2) := by
  rcases h with ⟨h1, h2, _⟩ | ⟨h1, h2, _⟩ | ⟨h1, h2, _⟩ | ⟨h1, h2, _⟩ <;> rw [h1, h2] <;> decide
theorem dw_vnum {A S : cm_S} {V : Nat → ct_T} {G : dm_Gs} {nc ne v : Nat} {kd f s : Int32} {num : Int64} (h : dm_vl A S V G ne nc kd f s num v) (h1 : kd = 1) : S.2 122 v = num := by
  rcases h with ⟨_, _, h2⟩ | ⟨h2, _⟩ | ⟨h2, _⟩ | ⟨h2, _⟩
  · exact h2
  · rw [h1] at h2; exact absurd h2 (by decide)
  · rw [h1] at h2; exact absurd h2 (by decide)
  · rw [h1] at h2; exact absurd h2 (by decide)
theorem dw_vfun {A S : cm_S} {V : Nat → ct_T} {G : dm_Gs} {nc ne v : Nat} {kd f s : Int32} {num : Int64} (h : dm_vl A S V G ne nc kd f s num v) (h1 : kd = 4) : ∃ g q e a b c t2, f = Int32.ofNat q ∧ dm_n A S V g q (ct_nd e a b c) t2 ∧ e.1 = 4 ∧ S.1 123 v = Int32.ofNat (2400 + q) ∧ S.1 124 v = s ∧ dm_sx G ne g (ct_nd e a b c) s := by
  rcases h with ⟨h2, _⟩ | ⟨_, _, h2⟩ | ⟨h2, _⟩ | ⟨h2, _⟩
  · rw [h1] at h2; exact absurd h2 (by decide)
  · exact h2
  · rw [h1] at h2; exact absurd h2 (by decide)
  · rw [h1] at h2; exact absurd h2 (by decide)
section DMa27
variable {A0 S0 A S : cm_S} {V : Nat → ct_T} {G : dm_Gs} {nc ne nf nv st lim wc sh dd g q v : Nat} {e : ct_D} {a b c t2 : ct_T} {s : Int32}
theorem dw_r13 (hF : dw_F A0 S0 A S V G nc ne nf nv st lim wc sh dd v) (hn : dm_n A S V g q (ct_nd e a b c) t2) (he : e.1 = 13) (hkd : A.1 73 nf = 13) (hp : A.1 74 nf = Int32.ofNat q) (hmk : S.1 125 nf = 6) (hp2 : S.1 126 nf = Int32.ofNat (2400 + q)) (hsc : A.1 75 nf = s) (hsc2 : S.1 127 nf = s) (hs : dm_sx G ne g (ct_nd e a b c) s) : dw_QF A0 S0 A S V st lim wc sh dd (nc + dm_nb A nf + 1) (ne + 2 * dm_nb A nf + 2) (nv + dm_nb A nf + 1) (nf + 1) (dm_fw A nf) := by
  obtain ⟨hA, hS, h72, h59, h, hon, hvn, hgv, hvl, hnc, hne, hnf, hnv, h57, h63⟩ := hF
  have hA72 := h.1.2.2.2.2.2.2.1
  have hS59 := h.1.2.2.2.2.2.2.2.1
  obtain ⟨f, x, y, z, pa, pb, pc, rfl, hnn, hed, ha, hb, hc⟩ := dm_n_nd hn
  have hq : 2400 + q < 8192 := hnn.1
  obtain ⟨tg1, tg2, tg3⟩ := dw_tags hvl
  have ct1 : dw_ct A nc ne nf nv (nc + dm_nb A nf + 1) (ne + 2 * dm_nb A nf + 2) (nv + dm_nb A nf + 1) (nf + 1) (dm_fw A nf) := ⟨by omega, by omega, by omega, by omega, by omega⟩
  have la : ¬ a = .leaf := fun hl => absurd ((ct_wf_nd hn.2.2.2.1.1).2.1.mp hl) (by rw [ct_ar_of.2.1 (by rw [he]; decide)]; omega)
  have lb : ¬ b = .leaf := fun hl => absurd ((ct_wf_nd hn.2.2.2.1.1).2.2.1.mp hl) (by rw [ct_ar_of.2.1 (by rw [he]; decide)]; omega)
  have lc : ¬ c = .leaf := fun hl => absurd ((ct_wf_nd hn.2.2.2.1.1).2.2.2.1.mp hl) (by rw [ct_ar_of.2.1 (by rw [he]; decide)]; omega)
  obtain ⟨hpb, hnb⟩ := hb lb
  obtain ⟨hpc, hnc2⟩ := hc lc
  by_cases hk : A.1 65 8 = 1
  · have hk2 := tg2.mp hk
    have hnum := dw_vnum hvl hk
    have hcm : lg_cmp (A.2 68 8) 0 = 0 ↔ A.2 68 8 = 0 := cu_lg
    by_cases h0 : A.2 68 8 = 0
    · obtain ⟨p1, p2⟩ := dw_evn h hon hnc2 (dm_sx_c hs (by rw [he]; decide))
      have kA : dw_c 67 6 [some (.ref 57), none, none, none] A0 (de_nx A (Int32.ofNat (q + 1 + ct_sz a + ct_sz b)) s) := by
        intro L xs d K k
        refine cx_67_0 ?_
        rintro _ rfl
        rw [h72, show Int32.ofNat (nf + 1) - 1 = Int32.ofNat nf from cp_sb (b := 1) (by omega), ← hA]
        intro S2 h2
        rw [h2]
        intro x3 h3
        rw [h3, hA72]
        refine cp_166 (by decide) (cp_r1 ?_)
        rw [cp_g_at (by rw [dm_rl.2.2.2.2.2.2.2.2.1]; omega) (by decide +kernel), hp]
        intro x8 h8
        rw [h8, hA72]
        refine cp_166 (by decide) (cp_r1 ?_)
        rw [cp_g_at (by rw [dm_rl.2.2.2.2.2.2.2.2.2.1]; omega) (by decide +kernel), hsc]
        intro x9 h9
        rw [h9, hA72]
        refine cp_166 (by decide) (cp_r1 ?_)
        rw [cp_g_at (by rw [dm_rl.2.2.2.2.2.2.2.1]; omega) (by decide +kernel), hkd]
        refine ⟨fun hc => absurd hc (by decide), fun _ => ⟨fun hc => absurd hc (by decide), fun _ => ⟨fun hc => absurd hc (by decide), fun _ => ⟨fun hc => absurd hc (by decide), fun _ => ⟨fun hc => absurd hc (by decide), fun _ => ⟨fun hc => absurd hc (by decide), fun _ => ⟨fun hc => absurd hc (by decide), fun _ => ⟨fun hc => absurd hc (by decide), fun _ => ⟨fun hc => absurd hc (by decide), fun _ => ⟨fun hc => absurd hc (by decide), fun _ => ⟨fun hc => absurd hc (by decide), fun _ => ⟨fun hc => absurd hc (by decide), fun _ => ⟨fun hc => absurd hc (by decide), fun _ => ⟨fun hc => absurd hc (by decide), fun _ => ⟨fun hc => absurd hc (by decide), fun _ => ?_⟩⟩⟩⟩⟩⟩⟩⟩⟩⟩⟩⟩⟩⟩⟩
        refine cx_72_0 _ _ ?_
        refine cp_116 (m := 8) h.1.2.2.1 (by omega) (by have := h.1.2.1; omega) (cp_r1 ?_)
        refine ⟨fun _ => ?_, fun hc => absurd hk hc⟩
        refine cp_119 (m := 8) (by omega) (cp_r2 ?_)
        refine ⟨fun _ => ?_, fun hc => absurd (hcm.mpr h0) hc⟩
        refine dm_16 hn la lb (cp_r1 ?_)
        refine cp_63 (cp_r0 ?_)
        try dsimp only [cm_sh]
        exact cp_r0 k
      have kS : dw_c 259 3 [some (.ref 83), none, none, none, none, none, none] S0 (me_ev S (Int32.ofNat (2400 + (q + 1 + ct_sz a + ct_sz b))) s) := by
        intro L xs d K k
        refine cx_259_0 ?_
        rintro _ rfl
        rw [h59, show Int32.ofNat (nf + 1) - 1 = Int32.ofNat nf from cp_sb (b := 1) (by omega), ← hS]
        intro S2 h2
        rw [h2]
        intro x3 h3
        rw [h3, hS59]
        refine ⟨cp_in (by omega) (by decide), ?_⟩
        rw [cp_cl (n := nf) (by omega)]
        intro x4 h4
        rw [h4, hmk]
        intro x5 h5
        rw [h5]
        refine ⟨cp_in (by omega) (by decide), ?_⟩
        rw [cp_cl (n := nf) (by omega)]
        intro x6 h6
        rw [h6, hp2, cp_cl (n := 2400 + q) (by omega)]
        intro x7 h7
        rw [h7]
        refine ⟨cp_in (by omega) (by decide), ?_⟩
        rw [cp_cl (n := nf) (by omega)]
        intro x8 h8
        rw [h8, hsc2]
        intro x9 h9
        rw [h9, hgv, cp_cl (n := v) (by omega)]
        refine ⟨cp_in (by omega) (by decide), ?_⟩
        intro x10 h10
        rw [h10]
        refine ⟨fun hc => absurd hc (by decide), fun _ => ⟨fun hc => absurd hc (by decide), fun _ => ⟨fun hc => absurd hc (by decide), fun _ => ⟨fun hc => absurd hc (by decide), fun _ => ⟨fun hc => absurd hc (by decide), fun _ => ⟨fun hc => absurd hc (by decide), fun _ => ?_⟩⟩⟩⟩⟩⟩
        refine ⟨fun _ => ?_, fun hc => absurd hk2 hc⟩
        refine ⟨fun hc => absurd hc (by decide), fun _ => ⟨fun _ => ?_, fun hc => absurd rfl hc⟩⟩
        refine ⟨cp_in (by omega) (by decide), ?_⟩
        intro x11 h11
        rw [h11, hnum]
        refine ⟨fun _ => ?_, fun hc => absurd (hcm.mpr h0) hc⟩
        refine ⟨cp_in hq (by decide), ?_⟩
        intro x12 h12
        rw [h12, hnn.2.2.2.2, hpc]
        exact cp_254 (cp_r0 (cx_259_442 _ _ _ _ _ _ k))
      exact ⟨_, _, kA, kS, cf_mono dw_nx_cf (fun b j h => decide_eq_true (by have h := of_decide_eq_true h; omega)), cf_mono dw_ev_cf (fun b j h => decide_eq_true (by have h := of_decide_eq_true h; omega)), G, nc, ne, nf, nv, p1, dw_ct_cf (A := A) (fun i2 _ => (dw_nx_cf 73 i2 (decide_eq_false (by omega))).1) ct1, p2⟩
    · obtain ⟨p1, p2⟩ := dw_evn h hon hnb (dm_sx_b hs (by rw [he]; decide))
      have kA : dw_c 67 6 [some (.ref 57), none, none, none] A0 (de_nx A (Int32.ofNat (q + 1 + ct_sz a)) s) := by
        intro L xs d K k
        refine cx_67_0 ?_
        rintro _ rfl
        rw [h72, show Int32.ofNat (nf + 1) - 1 = Int32.ofNat nf from cp_sb (b := 1) (by omega), ← hA]
        intro S2 h2
        rw [h2]
        intro x3 h3
        rw [h3, hA72]
        refine cp_166 (by decide) (cp_r1 ?_)
        rw [cp_g_at (by rw [dm_rl.2.2.2.2.2.2.2.2.1]; omega) (by decide +kernel), hp]
        intro x8 h8
        rw [h8, hA72]
        refine cp_166 (by decide) (cp_r1 ?_)
        rw [cp_g_at (by rw [dm_rl.2.2.2.2.2.2.2.2.2.1]; omega) (by decide +kernel), hsc]
        intro x9 h9
        rw [h9, hA72]
        refine cp_166 (by decide) (cp_r1 ?_)
        rw [cp_g_at (by rw [dm_rl.2.2.2.2.2.2.2.1]; omega) (by decide +kernel), hkd]
        refine ⟨fun hc => absurd hc (by decide), fun _ => ⟨fun hc => absurd hc (by decide), fun _ => ⟨fun hc => absurd hc (by decide), fun _ => ⟨fun hc => absurd hc (by decide), fun _ => ⟨fun hc => absurd hc (by decide), fun _ => ⟨fun hc => absurd hc (by decide), fun _ => ⟨fun hc => absurd hc (by decide), fun _ => ⟨fun hc => absurd hc (by decide), fun _ => ⟨fun hc => absurd hc (by decide), fun _ => ⟨fun hc => absurd hc (by decide), fun _ => ⟨fun hc => absurd hc (by decide), fun _ => ⟨fun hc => absurd hc (by decide), fun _ => ⟨fun hc => absurd hc (by decide), fun _ => ⟨fun hc => absurd hc (by decide), fun _ => ⟨fun hc => absurd hc (by decide), fun _ => ?_⟩⟩⟩⟩⟩⟩⟩⟩⟩⟩⟩⟩⟩⟩⟩
        refine cx_72_0 _ _ ?_
        refine cp_116 (m := 8) h.1.2.2.1 (by omega) (by have := h.1.2.1; omega) (cp_r1 ?_)
        refine ⟨fun _ => ?_, fun hc => absurd hk hc⟩
        refine cp_119 (m := 8) (by omega) (cp_r2 ?_)
        refine ⟨fun hc => absurd (hcm.mp hc) h0, fun _ => ?_⟩
        refine dm_15 hn la (cp_r1 ?_)
        refine cp_63 (cp_r0 ?_)
        try dsimp only [cm_sh]
        exact cp_r0 k
      have kS : dw_c 259 3 [some (.ref 83), none, none, none, none, none, none] S0 (me_ev S (Int32.ofNat (2400 + (q + 1 + ct_sz a))) s) := by
        intro L xs d K k
        refine cx_259_0 ?_
        rintro _ rfl
        rw [h59, show Int32.ofNat (nf + 1) - 1 = Int32.ofNat nf from cp_sb (b := 1) (by omega), ← hS]
        intro S2 h2
        rw [h2]
        intro x3 h3
        rw [h3, hS59]
        refine ⟨cp_in (by omega) (by decide), ?_⟩
        rw [cp_cl (n := nf) (by omega)]
        intro x4 h4
        rw [h4, hmk]
        intro x5 h5
        rw [h5]
        refine ⟨cp_in (by omega) (by decide), ?_⟩
        rw [cp_cl (n := nf) (by omega)]
        intro x6 h6
        rw [h6, hp2, cp_cl (n := 2400 + q) (by omega)]
        intro x7 h7
        rw [h7]
        refine ⟨cp_in (by omega) (by decide), ?_⟩
        rw [cp_cl (n := nf) (by omega)]
        intro x8 h8
        rw [h8, hsc2]
        intro x9 h9
        rw [h9, hgv, cp_cl (n := v) (by omega)]
        refine ⟨cp_in (by omega) (by decide), ?_⟩
        intro x10 h10
        rw [h10]
        refine ⟨fun hc => absurd hc (by decide), fun _ => ⟨fun hc => absurd hc (by decide), fun _ => ⟨fun hc => absurd hc (by decide), fun _ => ⟨fun hc => absurd hc (by decide), fun _ => ⟨fun hc => absurd hc (by decide), fun _ => ⟨fun hc => absurd hc (by decide), fun _ => ?_⟩⟩⟩⟩⟩⟩
        refine ⟨fun _ => ?_, fun hc => absurd hk2 hc⟩
        refine ⟨fun hc => absurd hc (by decide), fun _ => ⟨fun _ => ?_, fun hc => absurd rfl hc⟩⟩
        refine ⟨cp_in (by omega) (by decide), ?_⟩
        intro x11 h11
        rw [h11, hnum]
        refine ⟨fun hc => absurd (hcm.mp hc) h0, fun _ => ?_⟩
        refine ⟨cp_in hq (by decide), ?_⟩
        intro x12 h12
        rw [h12, hnn.2.2.2.1, hpb]
        exact cp_254 (cp_r0 (cx_259_442 _ _ _ _ _ _ k))
      exact ⟨_, _, kA, kS, cf_mono dw_nx_cf (fun b j h => decide_eq_true (by have h := of_decide_eq_true h; omega)), cf_mono dw_ev_cf (fun b j h => decide_eq_true (by have h := of_decide_eq_true h; omega)), G, nc, ne, nf, nv, p1, dw_ct_cf (A := A) (fun i2 _ => (dw_nx_cf 73 i2 (decide_eq_false (by omega))).1) ct1, p2⟩
  · have hk2 : ¬ S.1 121 v = 0 := fun hc => hk (tg2.mpr hc)
    have kA : dw_c 67 6 [some (.ref 57), none, none, none] A0 (cm_wI A 57 6 3) := by
      intro L xs d K k
      refine cx_67_0 ?_
      rintro _ rfl
      rw [h72, show Int32.ofNat (nf + 1) - 1 = Int32.ofNat nf from cp_sb (b := 1) (by omega), ← hA]
      intro S2 h2
      rw [h2]
      intro x3 h3
      rw [h3, hA72]
      refine cp_166 (by decide) (cp_r1 ?_)
      rw [cp_g_at (by rw [dm_rl.2.2.2.2.2.2.2.2.1]; omega) (by decide +kernel), hp]
      intro x8 h8
      rw [h8, hA72]
      refine cp_166 (by decide) (cp_r1 ?_)
      rw [cp_g_at (by rw [dm_rl.2.2.2.2.2.2.2.2.2.1]; omega) (by decide +kernel), hsc]
      intro x9 h9
      rw [h9, hA72]
      refine cp_166 (by decide) (cp_r1 ?_)
      rw [cp_g_at (by rw [dm_rl.2.2.2.2.2.2.2.1]; omega) (by decide +kernel), hkd]
      refine ⟨fun hc => absurd hc (by decide), fun _ => ⟨fun hc => absurd hc (by decide), fun _ => ⟨fun hc => absurd hc (by decide), fun _ => ⟨fun hc => absurd hc (by decide), fun _ => ⟨fun hc => absurd hc (by decide), fun _ => ⟨fun hc => absurd hc (by decide), fun _ => ⟨fun hc => absurd hc (by decide), fun _ => ⟨fun hc => absurd hc (by decide), fun _ => ⟨fun hc => absurd hc (by decide), fun _ => ⟨fun hc => absurd hc (by decide), fun _ => ⟨fun hc => absurd hc (by decide), fun _ => ⟨fun hc => absurd hc (by decide), fun _ => ⟨fun hc => absurd hc (by decide), fun _ => ⟨fun hc => absurd hc (by decide), fun _ => ⟨fun hc => absurd hc (by decide), fun _ => ?_⟩⟩⟩⟩⟩⟩⟩⟩⟩⟩⟩⟩⟩⟩⟩
      refine cx_72_0 _ _ ?_
      refine cp_116 (m := 8) h.1.2.2.1 (by omega) (by have := h.1.2.1; omega) (cp_r1 ?_)
      refine ⟨fun hc => absurd hc hk, fun _ => ?_⟩
      rintro _ rfl
      try dsimp only [cm_sh]
      exact cp_r0 k
    have kS : dw_c 259 3 [some (.ref 83), none, none, none, none, none, none] S0 (cm_wI S 83 40 3) := by
      intro L xs d K k
      refine cx_259_0 ?_
      rintro _ rfl
      rw [h59, show Int32.ofNat (nf + 1) - 1 = Int32.ofNat nf from cp_sb (b := 1) (by omega), ← hS]
      intro S2 h2
      rw [h2]
      intro x3 h3
      rw [h3, hS59]
      refine ⟨cp_in (by omega) (by decide), ?_⟩
      rw [cp_cl (n := nf) (by omega)]
      intro x4 h4
      rw [h4, hmk]
      intro x5 h5
      rw [h5]
      refine ⟨cp_in (by omega) (by decide), ?_⟩
      rw [cp_cl (n := nf) (by omega)]
      intro x6 h6
      rw [h6, hp2, cp_cl (n := 2400 + q) (by omega)]
      intro x7 h7
      rw [h7]
      refine ⟨cp_in (by omega) (by decide), ?_⟩
      rw [cp_cl (n := nf) (by omega)]
      intro x8 h8
      rw [h8, hsc2]
      intro x9 h9
      rw [h9, hgv, cp_cl (n := v) (by omega)]
      refine ⟨cp_in (by omega) (by decide), ?_⟩
      intro x10 h10
      rw [h10]
      refine ⟨fun hc => absurd hc (by decide), fun _ => ⟨fun hc => absurd hc (by decide), fun _ => ⟨fun hc => absurd hc (by decide), fun _ => ⟨fun hc => absurd hc (by decide), fun _ => ⟨fun hc => absurd hc (by decide), fun _ => ⟨fun hc => absurd hc (by decide), fun _ => ?_⟩⟩⟩⟩⟩⟩
      refine ⟨fun hc => absurd hc hk2, fun _ => ?_⟩
      rintro _ rfl
      exact cx_259_442 _ _ _ _ _ _ k
    exact ⟨_, _, kA, kS, cf_wI (decide_eq_true (by omega)), cf_wI (decide_eq_true (by omega)), dw_stop (o := 3) (Or.inl rfl) h ct1 (cf_wI (decide_eq_true (by omega))) (cf_wI (decide_eq_true (by omega))) (by rw [cp_wI1, if_pos ⟨rfl, rfl⟩]; rfl) (by rw [cp_wI1, if_pos ⟨rfl, rfl⟩]; rfl)⟩
theorem dw_r9 (hF : dw_F A0 S0 A S V G nc ne nf nv st lim wc sh dd v) (hn : dm_n A S V g q (ct_nd e a b c) t2) (he : e.1 = 9) (hkd : A.1 73 nf = 9) (hp : A.1 74 nf = Int32.ofNat q) (hmk : S.1 125 nf = 3) (hp2 : S.1 126 nf = Int32.ofNat (2400 + q)) (hsc : A.1 75 nf = s) (hsc2 : S.1 127 nf = s) (hs : dm_sx G ne g (ct_nd e a b c) s) : dw_QF A0 S0 A S V st lim wc sh dd (nc + dm_nb A nf + 1) (ne + 2 * dm_nb A nf + 2) (nv + dm_nb A nf + 1) (nf + 1) (dm_fw A nf + 1) := by
  obtain ⟨hA, hS, h72, h59, h, hon, hvn, hgv, hvl, hnc, hne, hnf, hnv, h57, h63⟩ := hF
  have hA72 := h.1.2.2.2.2.2.2.1
  have hS59 := h.1.2.2.2.2.2.2.2.1
  obtain ⟨f, x, y, z, pa, pb, pc, rfl, hnn, hed, ha, hb, hc⟩ := dm_n_nd hn
  have hq : 2400 + q < 8192 := hnn.1
  obtain ⟨tg1, tg2, tg3⟩ := dw_tags hvl
  have ct1 : dw_ct A nc ne nf nv (nc + dm_nb A nf + 1) (ne + 2 * dm_nb A nf + 2) (nv + dm_nb A nf + 1) (nf + 1) (dm_fw A nf + 1) := ⟨by omega, by omega, by omega, by omega, by omega⟩
  have la : ¬ a = .leaf := fun hl => absurd ((ct_wf_nd hn.2.2.2.1.1).2.1.mp hl) (by rw [ct_ar_of.1 (by rw [he]; decide)]; omega)
  have lb : ¬ b = .leaf := fun hl => absurd ((ct_wf_nd hn.2.2.2.1.1).2.2.1.mp hl) (by rw [ct_ar_of.1 (by rw [he]; decide)]; omega)
  obtain ⟨hpb, hnb⟩ := hb lb
  obtain ⟨u1, u2, u3, u4, u5⟩ := de_ps_at (A := A) (nf := nf) (k := -2) (p := Int32.ofNat q) (s := A.1 65 8) (num := A.2 68 8)
  obtain ⟨v1, v2, v3, v4⟩ := me_ws_at (S := S) (nf := nf) (k := 4) (p := Int32.ofNat (2400 + q)) (s := Int32.ofNat v)
  have fA1 : cf_W (fun b j => decide (73 ≤ b ∧ b ≤ 76 ∧ j = nf ∨ b = 72 ∧ j = 4)) A (de_ps A nf (-2) (Int32.ofNat q) (A.1 65 8) (A.2 68 8)) := de_ps_cf
  have fS1 : cf_W (fun b j => decide (125 ≤ b ∧ b ≤ 127 ∧ j = nf ∨ b = 83 ∧ j = 59)) S (me_ws S nf 4 (Int32.ofNat (2400 + q)) (Int32.ofNat v)) := me_ws_cf
  have hn2 := dm_n_cf fA1 (fun b j q1 q2 => decide_eq_false (by omega)) fS1 (fun b x q1 q2 q3 q4 => decide_eq_false (by omega)) hn
  have hnA := dm_n_cf fA1 (fun b j q1 q2 => decide_eq_false (by omega)) (cf_rfl (W := fun _ _ => false) (S := S)) (fun b x q1 q2 q3 q4 => rfl) hn
  have hnb2 := dm_n_cf fA1 (fun b j q1 q2 => decide_eq_false (by omega)) fS1 (fun b x q1 q2 q3 q4 => decide_eq_false (by omega)) hnb
  have p0 := dm_P_ps (k := -2) (p := Int32.ofNat q) (s := A.1 65 8) (k2 := 4) (p2 := Int32.ofNat (2400 + q)) (s2 := Int32.ofNat v) (num := A.2 68 8) h (Or.inr ⟨g, q, e, a, b, c, _, u2, hn2, v2, Or.inr ⟨u1, he, v1, v, hvn, v3, by rw [u3, (fS1 121 v (decide_eq_false (by omega))).1]; exact tg2, by rw [u3, u4, (fS1 122 v (decide_eq_false (by omega))).2]; exact fun hc => (dw_vnum hvl hc).symm⟩⟩) (fun hc => absurd hc (by decide))
  obtain ⟨p1, p2⟩ := dw_evn p0 ⟨(fA1 57 6 (decide_eq_false (by omega))).1.trans hon.1, (fS1 83 40 (decide_eq_false (by omega))).1.trans hon.2⟩ hnb2 (dm_sx_b hs (by rw [he]; decide))
  obtain ⟨n1, n2⟩ := dw_ps (A := A) (nf := nf) (k := -2) (p := Int32.ofNat q) (s := A.1 65 8) (num := A.2 68 8)
  rw [if_neg (by decide)] at n1 n2
  have kA : dw_c 67 6 [some (.ref 57), none, none, none] A0 (de_nx (de_ps A nf (-2) (Int32.ofNat q) (A.1 65 8) (A.2 68 8)) (Int32.ofNat (q + 1 + ct_sz a)) s) := by
    intro L xs d K k
    refine cx_67_0 ?_
    rintro _ rfl
    rw [h72, show Int32.ofNat (nf + 1) - 1 = Int32.ofNat nf from cp_sb (b := 1) (by omega), ← hA]
    intro S2 h2
    rw [h2]
    intro x3 h3
    rw [h3, hA72]
    refine cp_166 (by decide) (cp_r1 ?_)
    rw [cp_g_at (by rw [dm_rl.2.2.2.2.2.2.2.2.1]; omega) (by decide +kernel), hp]
    intro x8 h8
    rw [h8, hA72]
    refine cp_166 (by decide) (cp_r1 ?_)
    rw [cp_g_at (by rw [dm_rl.2.2.2.2.2.2.2.2.2.1]; omega) (by decide +kernel), hsc]
    intro x9 h9
    rw [h9, hA72]
    refine cp_166 (by decide) (cp_r1 ?_)
    rw [cp_g_at (by rw [dm_rl.2.2.2.2.2.2.2.1]; omega) (by decide +kernel), hkd]
    refine ⟨fun hc => absurd hc (by decide), fun _ => ⟨fun hc => absurd hc (by decide), fun _ => ⟨fun hc => absurd hc (by decide), fun _ => ⟨fun hc => absurd hc (by decide), fun _ => ⟨fun hc => absurd hc (by decide), fun _ => ⟨fun hc => absurd hc (by decide), fun _ => ⟨fun hc => absurd hc (by decide), fun _ => ⟨fun hc => absurd hc (by decide), fun _ => ⟨fun hc => absurd hc (by decide), fun _ => ⟨fun hc => absurd hc (by decide), fun _ => ⟨fun hc => absurd hc (by decide), fun _ => ⟨fun _ => ?_, fun hc => absurd (by decide) hc⟩⟩⟩⟩⟩⟩⟩⟩⟩⟩⟩⟩
    refine cx_69_0 _ _ ?_
    refine cp_116 (m := 8) h.1.2.2.1 (by omega) (by have := h.1.2.1; omega) (cp_r1 ?_)
    refine cp_119 (m := 8) (by omega) (cp_r2 ?_)
    refine cp_56 hA72 (by omega) (cp_r0 ?_)
    refine dm_15 hnA la (cp_r1 ?_)
    refine cp_63 (cp_r0 ?_)
    try dsimp only [cm_sh]
    exact cp_r0 k
  have kS : dw_c 259 3 [some (.ref 83), none, none, none, none, none, none] S0 (me_ev (me_ws S nf 4 (Int32.ofNat (2400 + q)) (Int32.ofNat v)) (Int32.ofNat (2400 + (q + 1 + ct_sz a))) s) := by
    intro L xs d K k
    refine cx_259_0 ?_
    rintro _ rfl
    rw [h59, show Int32.ofNat (nf + 1) - 1 = Int32.ofNat nf from cp_sb (b := 1) (by omega), ← hS]
    intro S2 h2
    rw [h2]
    intro x3 h3
    rw [h3, hS59]
    refine ⟨cp_in (by omega) (by decide), ?_⟩
    rw [cp_cl (n := nf) (by omega)]
    intro x4 h4
    rw [h4, hmk]
    intro x5 h5
    rw [h5]
    refine ⟨cp_in (by omega) (by decide), ?_⟩
    rw [cp_cl (n := nf) (by omega)]
    intro x6 h6
    rw [h6, hp2, cp_cl (n := 2400 + q) (by omega)]
    intro x7 h7
    rw [h7]
    refine ⟨cp_in (by omega) (by decide), ?_⟩
    rw [cp_cl (n := nf) (by omega)]
    intro x8 h8
    rw [h8, hsc2]
    intro x9 h9
    rw [h9, hgv, cp_cl (n := v) (by omega)]
    refine ⟨cp_in (by omega) (by decide), ?_⟩
    intro x10 h10
    rw [h10]
    refine ⟨fun hc => absurd hc (by decide), fun _ => ⟨fun hc => absurd hc (by decide), fun _ => ⟨fun _ => ?_, fun hc => absurd (by decide) hc⟩⟩⟩
    refine cp_253 hS59 (by omega) (cp_r0 ?_)
    refine ⟨cp_in hq (by decide), ?_⟩
    intro x11 h11
    rw [h11, (fS1 95 (2400 + q) (decide_eq_false (by omega))).1, hnn.2.2.2.1, hpb]
    exact cp_254 (cp_r0 (cx_259_442 _ _ _ _ _ _ k))
  refine ⟨_, _, kA, kS, cf_tr (cf_mono fA1 (fun b j h => decide_eq_true (by have h := of_decide_eq_true h; omega))) (cf_mono dw_nx_cf (fun b j h => decide_eq_true (by have h := of_decide_eq_true h; omega))), cf_tr (cf_mono fS1 (fun b j h => decide_eq_true (by have h := of_decide_eq_true h; omega))) (cf_mono dw_ev_cf (fun b j h => decide_eq_true (by have h := of_decide_eq_true h; omega))), G, nc, ne, nf + 1, nv, p1, dw_ct_cf (A := de_ps A nf (-2) (Int32.ofNat q) (A.1 65 8) (A.2 68 8)) (fun i2 _ => (dw_nx_cf 73 i2 (decide_eq_false (by omega))).1) ?_, p2⟩
  unfold dw_ct
  rw [n1, n2]
  exact ⟨by omega, by omega, by omega, by omega, by omega⟩
theorem dw_wsame {S : cm_S} {a k : Nat} : cm_wI S a k (S.1 a k) = S := Prod.ext (funext fun b => funext fun j => by
  rw [cp_wI1]
  by_cases hc : b = a ∧ j = k
  · rw [if_pos hc, hc.1, hc.2]
  · rw [if_neg hc]) rfl
theorem dw_r2 (hF : dw_F A0 S0 A S V G nc ne nf nv st lim wc sh dd v) (hn : dm_n A S V g q (ct_nd e a b c) t2) (he : e.1 = 9) (hkd : A.1 73 nf = -2) (hp : A.1 74 nf = Int32.ofNat q) (hmk : S.1 125 nf = 4) (hp2 : S.1 126 nf = Int32.ofNat (2400 + q)) {v2 : Nat} (hv2 : v2 < nv) (hsc2 : S.1 127 nf = Int32.ofNat v2) (hi : A.1 75 nf = 1 ↔ S.1 121 v2 = 0) (hi2 : A.1 75 nf = 1 → A.2 76 nf = S.2 122 v2) : dw_QF A0 S0 A S V st lim wc sh dd (nc + dm_nb A nf + 1) (ne + 2 * dm_nb A nf + 2) (nv + dm_nb A nf + 1) (nf + 1) (dm_fw A nf) := by
  obtain ⟨hA, hS, h72, h59, h, hon, hvn, hgv, hvl, hnc, hne, hnf, hnv, h57, h63⟩ := hF
  have hA72 := h.1.2.2.2.2.2.2.1
  have hS59 := h.1.2.2.2.2.2.2.2.1
  obtain ⟨f, x, y, z, pa, pb, pc, rfl, hnn, hed, ha, hb, hc⟩ := dm_n_nd hn
  have hq : 2400 + q < 8192 := hnn.1
  obtain ⟨tg1, tg2, tg3⟩ := dw_tags hvl
  have ct1 : dw_ct A nc ne nf nv (nc + dm_nb A nf + 1) (ne + 2 * dm_nb A nf + 2) (nv + dm_nb A nf + 1) (nf + 1) (dm_fw A nf) := ⟨by omega, by omega, by omega, by omega, by omega⟩
  have hsc : A.1 75 nf = A.1 75 nf := rfl
  have hS40 : cm_wI S 83 40 (-1) = S := by
    have hw := dw_wsame (S := S) (a := 83) (k := 40)
    rw [hon.2] at hw
    exact hw
  by_cases hk1 : A.1 75 nf = 1
  · by_cases hk : A.1 65 8 = 1
    · have hk2 := tg2.mp hk
      have hnum := dw_vnum hvl hk
      have hj := hi.mp hk1
      have hnum2 := hi2 hk1
      have kA : dw_c 67 6 [some (.ref 57), none, none, none] A0 (de_gv A 1 0 0 (dt_cnt e.2.1 (A.2 76 nf) (A.2 68 8))) := by
        intro L xs d K k
        refine cx_67_0 ?_
        rintro _ rfl
        rw [h72, show Int32.ofNat (nf + 1) - 1 = Int32.ofNat nf from cp_sb (b := 1) (by omega), ← hA]
        intro S2 h2
        rw [h2]
        intro x3 h3
        rw [h3, hA72]
        refine cp_166 (by decide) (cp_r1 ?_)
        rw [cp_g_at (by rw [dm_rl.2.2.2.2.2.2.2.2.1]; omega) (by decide +kernel), hp]
        intro x8 h8
        rw [h8, hA72]
        refine cp_166 (by decide) (cp_r1 ?_)
        rw [cp_g_at (by rw [dm_rl.2.2.2.2.2.2.2.2.2.1]; omega) (by decide +kernel), hsc]
        intro x9 h9
        rw [h9, hA72]
        refine cp_166 (by decide) (cp_r1 ?_)
        rw [cp_g_at (by rw [dm_rl.2.2.2.2.2.2.2.1]; omega) (by decide +kernel), hkd]
        refine ⟨fun _ => ?_, fun hc => absurd (by decide) hc⟩
        refine ⟨fun _ => ?_, fun hc => absurd hk1 hc⟩
        intro x14 h14
        rw [h14, hA72]
        refine cp_168 (by decide) (cp_r2 ?_)
        rw [cp_g_at (by rw [dm_rl.2.2.2.2.2.2.2.2.2.2.1]; omega) (by decide +kernel)]
        refine cx_70_0 _ _ _ ?_
        refine ⟨fun hc => absurd hc (by decide), fun _ => ?_⟩
        refine cp_116 (m := 8) h.1.2.2.1 (by omega) (by have := h.1.2.1; omega) (cp_r1 ?_)
        refine ⟨fun _ => ?_, fun hc => absurd hk hc⟩
        refine dm_11 hn (cp_r2 ?_)
        refine cp_119 (m := 8) (by omega) (cp_r2 ?_)
        refine cp_170 (cp_r2 ?_)
        refine cp_64 (cp_r0 ?_)
        try dsimp only [cm_sh]
        exact cp_r0 k
      have kS : dw_c 259 3 [some (.ref 83), none, none, none, none, none, none] S0 (me_gv (me_vl S nv 0 (dt_cnt e.2.1 (A.2 76 nf) (A.2 68 8)) (-1) (-1)) (Int32.ofNat nv)) := by
        intro L xs d K k
        refine cx_259_0 ?_
        rintro _ rfl
        rw [h59, show Int32.ofNat (nf + 1) - 1 = Int32.ofNat nf from cp_sb (b := 1) (by omega), ← hS]
        intro S2 h2
        rw [h2]
        intro x3 h3
        rw [h3, hS59]
        refine ⟨cp_in (by omega) (by decide), ?_⟩
        rw [cp_cl (n := nf) (by omega)]
        intro x4 h4
        rw [h4, hmk]
        intro x5 h5
        rw [h5]
        refine ⟨cp_in (by omega) (by decide), ?_⟩
        rw [cp_cl (n := nf) (by omega)]
        intro x6 h6
        rw [h6, hp2, cp_cl (n := 2400 + q) (by omega)]
        intro x7 h7
        rw [h7]
        refine ⟨cp_in (by omega) (by decide), ?_⟩
        rw [cp_cl (n := nf) (by omega)]
        intro x8 h8
        rw [h8, hsc2, cp_cl (n := v2) (by omega)]
        intro x9 h9
        rw [h9, hgv, cp_cl (n := v) (by omega)]
        refine ⟨cp_in (by omega) (by decide), ?_⟩
        intro x10 h10
        rw [h10]
        refine ⟨fun hc => absurd hc (by decide), fun _ => ⟨fun hc => absurd hc (by decide), fun _ => ⟨fun hc => absurd hc (by decide), fun _ => ⟨fun _ => ?_, fun hc => absurd (by decide) hc⟩⟩⟩⟩
        refine ⟨fun _ => ?_, fun hc => absurd hk2 hc⟩
        refine ⟨cp_in (by omega) (by decide), ?_⟩
        intro x11 h11
        rw [h11]
        refine ⟨fun _ => ?_, fun hc => absurd hj hc⟩
        refine ⟨fun hc => absurd hc (by decide), fun _ => ?_⟩
        intro x12 h12
        rw [h12, hon.2]
        intro S3 h3
        rw [h3, hS40]
        refine ⟨fun hc => absurd hc (by decide), fun _ => ?_⟩
        refine ⟨cp_in hq (by decide), ?_⟩
        intro x13 h13
        rw [h13, (dm_nk hnn).2.1, ← hed.2.1]
        refine ⟨cp_in (by omega) (by decide), ?_⟩
        intro x14 h14
        rw [h14, ← hnum2]
        refine ⟨cp_in (by omega) (by decide), ?_⟩
        intro x15 h15
        rw [h15, hnum]
        refine cp_221 (cp_r2 ?_)
        refine cp_248 h.1.2.2.2.2.2.2.2.2.1 (by omega) (cp_r1 ?_)
        exact cp_255 (cp_r0 (cx_259_442 _ _ _ _ _ _ k))
      obtain ⟨v1, v3, _⟩ := me_vl_at (S := S) (nv := nv) (t := 0) (num := dt_cnt e.2.1 (A.2 76 nf) (A.2 68 8)) (o1 := -1) (o2 := -1)
      obtain ⟨p1, p2⟩ := dw_giv (kd := 1) (f := 0) (s := 0) h hon (Or.inl ⟨rfl, v1, v3⟩)
      exact ⟨_, _, kA, kS, cf_mono dw_gv_cf (fun b j h => decide_eq_true (by have h := of_decide_eq_true h; omega)), cf_tr (cf_mono me_vl_cf (fun b j h => decide_eq_true (by have h := of_decide_eq_true h; omega))) (cf_mono dw_gs_cf (fun b j h => decide_eq_true (by have h := of_decide_eq_true h; omega))), G, nc, ne, nf, nv + 1, p1, dw_ct_cf (A := A) (fun i2 _ => (dw_gv_cf 73 i2 (decide_eq_false (by omega))).1) ⟨by omega, by omega, by omega, by omega, by omega⟩, p2⟩
    · have hk2 : ¬ S.1 121 v = 0 := fun hc => hk (tg2.mpr hc)
      have kA : dw_c 67 6 [some (.ref 57), none, none, none] A0 (cm_wI A 57 6 3) := by
        intro L xs d K k
        refine cx_67_0 ?_
        rintro _ rfl
        rw [h72, show Int32.ofNat (nf + 1) - 1 = Int32.ofNat nf from cp_sb (b := 1) (by omega), ← hA]
        intro S2 h2
        rw [h2]
        intro x3 h3
        rw [h3, hA72]
        refine cp_166 (by decide) (cp_r1 ?_)
        rw [cp_g_at (by rw [dm_rl.2.2.2.2.2.2.2.2.1]; omega) (by decide +kernel), hp]
        intro x8 h8
        rw [h8, hA72]
        refine cp_166 (by decide) (cp_r1 ?_)
        rw [cp_g_at (by rw [dm_rl.2.2.2.2.2.2.2.2.2.1]; omega) (by decide +kernel), hsc]
        intro x9 h9
        rw [h9, hA72]
        refine cp_166 (by decide) (cp_r1 ?_)
        rw [cp_g_at (by rw [dm_rl.2.2.2.2.2.2.2.1]; omega) (by decide +kernel), hkd]
        refine ⟨fun _ => ?_, fun hc => absurd (by decide) hc⟩
        refine ⟨fun _ => ?_, fun hc => absurd hk1 hc⟩
        intro x14 h14
        rw [h14, hA72]
        refine cp_168 (by decide) (cp_r2 ?_)
        rw [cp_g_at (by rw [dm_rl.2.2.2.2.2.2.2.2.2.2.1]; omega) (by decide +kernel)]
        refine cx_70_0 _ _ _ ?_
        refine ⟨fun hc => absurd hc (by decide), fun _ => ?_⟩
        refine cp_116 (m := 8) h.1.2.2.1 (by omega) (by have := h.1.2.1; omega) (cp_r1 ?_)
        refine ⟨fun hc => absurd hc hk, fun _ => ?_⟩
        rintro _ rfl
        try dsimp only [cm_sh]
        exact cp_r0 k
      have kS : dw_c 259 3 [some (.ref 83), none, none, none, none, none, none] S0 (me_gv (cm_wI S 83 40 3) (-1)) := by
        intro L xs d K k
        refine cx_259_0 ?_
        rintro _ rfl
        rw [h59, show Int32.ofNat (nf + 1) - 1 = Int32.ofNat nf from cp_sb (b := 1) (by omega), ← hS]
        intro S2 h2
        rw [h2]
        intro x3 h3
        rw [h3, hS59]
        refine ⟨cp_in (by omega) (by decide), ?_⟩
        rw [cp_cl (n := nf) (by omega)]
        intro x4 h4
        rw [h4, hmk]
        intro x5 h5
        rw [h5]
        refine ⟨cp_in (by omega) (by decide), ?_⟩
        rw [cp_cl (n := nf) (by omega)]
        intro x6 h6
        rw [h6, hp2, cp_cl (n := 2400 + q) (by omega)]
        intro x7 h7
        rw [h7]
        refine ⟨cp_in (by omega) (by decide), ?_⟩
        rw [cp_cl (n := nf) (by omega)]
        intro x8 h8
        rw [h8, hsc2, cp_cl (n := v2) (by omega)]
        intro x9 h9
        rw [h9, hgv, cp_cl (n := v) (by omega)]
        refine ⟨cp_in (by omega) (by decide), ?_⟩
        intro x10 h10
        rw [h10]
        refine ⟨fun hc => absurd hc (by decide), fun _ => ⟨fun hc => absurd hc (by decide), fun _ => ⟨fun hc => absurd hc (by decide), fun _ => ⟨fun _ => ?_, fun hc => absurd (by decide) hc⟩⟩⟩⟩
        refine ⟨fun hc => absurd hc hk2, fun _ => ?_⟩
        refine cx_259_175 _ _ _ _ _ ⟨fun _ => ?_, fun hc => absurd rfl hc⟩
        rintro _ rfl
        refine ⟨fun _ => ?_, fun hc => absurd rfl hc⟩
        exact cp_255 (cp_r0 (cx_259_442 _ _ _ _ _ _ k))
      exact ⟨_, _, kA, kS, cf_wI (decide_eq_true (by omega)), cf_tr (cf_wI (decide_eq_true (by omega))) (cf_mono dw_gs_cf (fun b j h => decide_eq_true (by have h := of_decide_eq_true h; omega))), dw_stop (o := 3) (Or.inl rfl) h ct1 (cf_wI (decide_eq_true (by omega))) (cf_tr (cf_wI (decide_eq_true (by omega))) (cf_mono dw_gs_cf (fun b j h => decide_eq_true (by have h := of_decide_eq_true h; omega)))) (by rw [cp_wI1, if_pos ⟨rfl, rfl⟩]; rfl) (by rw [(dw_gs_cf 83 40 (decide_eq_false (by omega))).1, cp_wI1, if_pos ⟨rfl, rfl⟩]; rfl)⟩
  · have hj : ¬ S.1 121 v2 = 0 := fun hc => hk1 (hi.mpr hc)
    by_cases hk2 : S.1 121 v = 0
    · have hsk := hk2
      have kA : dw_c 67 6 [some (.ref 57), none, none, none] A0 (cm_wI A 57 6 3) := by
        intro L xs d K k
        refine cx_67_0 ?_
        rintro _ rfl
        rw [h72, show Int32.ofNat (nf + 1) - 1 = Int32.ofNat nf from cp_sb (b := 1) (by omega), ← hA]
        intro S2 h2
        rw [h2]
        intro x3 h3
        rw [h3, hA72]
        refine cp_166 (by decide) (cp_r1 ?_)
        rw [cp_g_at (by rw [dm_rl.2.2.2.2.2.2.2.2.1]; omega) (by decide +kernel), hp]
        intro x8 h8
        rw [h8, hA72]
        refine cp_166 (by decide) (cp_r1 ?_)
        rw [cp_g_at (by rw [dm_rl.2.2.2.2.2.2.2.2.2.1]; omega) (by decide +kernel), hsc]
        intro x9 h9
        rw [h9, hA72]
        refine cp_166 (by decide) (cp_r1 ?_)
        rw [cp_g_at (by rw [dm_rl.2.2.2.2.2.2.2.1]; omega) (by decide +kernel), hkd]
        refine ⟨fun _ => ?_, fun hc => absurd (by decide) hc⟩
        refine ⟨fun hc => absurd hc hk1, fun _ => ?_⟩
        intro x14 h14
        rw [h14, hA72]
        refine cp_168 (by decide) (cp_r2 ?_)
        rw [cp_g_at (by rw [dm_rl.2.2.2.2.2.2.2.2.2.2.1]; omega) (by decide +kernel)]
        refine cx_70_0 _ _ _ ?_
        refine ⟨fun _ => ?_, fun hc => absurd rfl hc⟩
        rintro _ rfl
        try dsimp only [cm_sh]
        exact cp_r0 k
      have kS : dw_c 259 3 [some (.ref 83), none, none, none, none, none, none] S0 (me_gv (cm_wI S 83 40 3) (-1)) := by
        intro L xs d K k
        refine cx_259_0 ?_
        rintro _ rfl
        rw [h59, show Int32.ofNat (nf + 1) - 1 = Int32.ofNat nf from cp_sb (b := 1) (by omega), ← hS]
        intro S2 h2
        rw [h2]
        intro x3 h3
        rw [h3, hS59]
        refine ⟨cp_in (by omega) (by decide), ?_⟩
        rw [cp_cl (n := nf) (by omega)]
        intro x4 h4
        rw [h4, hmk]
        intro x5 h5
        rw [h5]
        refine ⟨cp_in (by omega) (by decide), ?_⟩
        rw [cp_cl (n := nf) (by omega)]
        intro x6 h6
        rw [h6, hp2, cp_cl (n := 2400 + q) (by omega)]
        intro x7 h7
        rw [h7]
        refine ⟨cp_in (by omega) (by decide), ?_⟩
        rw [cp_cl (n := nf) (by omega)]
        intro x8 h8
        rw [h8, hsc2, cp_cl (n := v2) (by omega)]
        intro x9 h9
        rw [h9, hgv, cp_cl (n := v) (by omega)]
        refine ⟨cp_in (by omega) (by decide), ?_⟩
        intro x10 h10
        rw [h10]
        refine ⟨fun hc => absurd hc (by decide), fun _ => ⟨fun hc => absurd hc (by decide), fun _ => ⟨fun hc => absurd hc (by decide), fun _ => ⟨fun _ => ?_, fun hc => absurd (by decide) hc⟩⟩⟩⟩
        refine ⟨fun _ => ?_, fun hc => absurd hk2 hc⟩
        refine ⟨cp_in (by omega) (by decide), ?_⟩
        intro x11 h11
        rw [h11]
        refine ⟨fun hc => absurd hc hj, fun _ => ?_⟩
        refine cx_259_175 _ _ _ _ _ ⟨fun _ => ?_, fun hc => absurd rfl hc⟩
        rintro _ rfl
        refine ⟨fun _ => ?_, fun hc => absurd rfl hc⟩
        exact cp_255 (cp_r0 (cx_259_442 _ _ _ _ _ _ k))
      exact ⟨_, _, kA, kS, cf_wI (decide_eq_true (by omega)), cf_tr (cf_wI (decide_eq_true (by omega))) (cf_mono dw_gs_cf (fun b j h => decide_eq_true (by have h := of_decide_eq_true h; omega))), dw_stop (o := 3) (Or.inl rfl) h ct1 (cf_wI (decide_eq_true (by omega))) (cf_tr (cf_wI (decide_eq_true (by omega))) (cf_mono dw_gs_cf (fun b j h => decide_eq_true (by have h := of_decide_eq_true h; omega)))) (by rw [cp_wI1, if_pos ⟨rfl, rfl⟩]; rfl) (by rw [(dw_gs_cf 83 40 (decide_eq_false (by omega))).1, cp_wI1, if_pos ⟨rfl, rfl⟩]; rfl)⟩
    · have hsk := hk2
      have kA : dw_c 67 6 [some (.ref 57), none, none, none] A0 (cm_wI A 57 6 3) := by
        intro L xs d K k
        refine cx_67_0 ?_
        rintro _ rfl
        rw [h72, show Int32.ofNat (nf + 1) - 1 = Int32.ofNat nf from cp_sb (b := 1) (by omega), ← hA]
        intro S2 h2
        rw [h2]
        intro x3 h3
        rw [h3, hA72]
        refine cp_166 (by decide) (cp_r1 ?_)
        rw [cp_g_at (by rw [dm_rl.2.2.2.2.2.2.2.2.1]; omega) (by decide +kernel), hp]
        intro x8 h8
        rw [h8, hA72]
        refine cp_166 (by decide) (cp_r1 ?_)
        rw [cp_g_at (by rw [dm_rl.2.2.2.2.2.2.2.2.2.1]; omega) (by decide +kernel), hsc]
        intro x9 h9
        rw [h9, hA72]
        refine cp_166 (by decide) (cp_r1 ?_)
        rw [cp_g_at (by rw [dm_rl.2.2.2.2.2.2.2.1]; omega) (by decide +kernel), hkd]
        refine ⟨fun _ => ?_, fun hc => absurd (by decide) hc⟩
        refine ⟨fun hc => absurd hc hk1, fun _ => ?_⟩
        intro x14 h14
        rw [h14, hA72]
        refine cp_168 (by decide) (cp_r2 ?_)
        rw [cp_g_at (by rw [dm_rl.2.2.2.2.2.2.2.2.2.2.1]; omega) (by decide +kernel)]
        refine cx_70_0 _ _ _ ?_
        refine ⟨fun _ => ?_, fun hc => absurd rfl hc⟩
        rintro _ rfl
        try dsimp only [cm_sh]
        exact cp_r0 k
      have kS : dw_c 259 3 [some (.ref 83), none, none, none, none, none, none] S0 (me_gv (cm_wI S 83 40 3) (-1)) := by
        intro L xs d K k
        refine cx_259_0 ?_
        rintro _ rfl
        rw [h59, show Int32.ofNat (nf + 1) - 1 = Int32.ofNat nf from cp_sb (b := 1) (by omega), ← hS]
        intro S2 h2
        rw [h2]
        intro x3 h3
        rw [h3, hS59]
        refine ⟨cp_in (by omega) (by decide), ?_⟩
        rw [cp_cl (n := nf) (by omega)]
        intro x4 h4
        rw [h4, hmk]
        intro x5 h5
        rw [h5]
        refine ⟨cp_in (by omega) (by decide), ?_⟩
        rw [cp_cl (n := nf) (by omega)]
        intro x6 h6
        rw [h6, hp2, cp_cl (n := 2400 + q) (by omega)]
        intro x7 h7
        rw [h7]
        refine ⟨cp_in (by omega) (by decide), ?_⟩
        rw [cp_cl (n := nf) (by omega)]
        intro x8 h8
        rw [h8, hsc2, cp_cl (n := v2) (by omega)]
        intro x9 h9
        rw [h9, hgv, cp_cl (n := v) (by omega)]
        refine ⟨cp_in (by omega) (by decide), ?_⟩
        intro x10 h10
        rw [h10]
        refine ⟨fun hc => absurd hc (by decide), fun _ => ⟨fun hc => absurd hc (by decide), fun _ => ⟨fun hc => absurd hc (by decide), fun _ => ⟨fun _ => ?_, fun hc => absurd (by decide) hc⟩⟩⟩⟩
        refine ⟨fun hc => absurd hc hk2, fun _ => ?_⟩
        refine cx_259_175 _ _ _ _ _ ⟨fun _ => ?_, fun hc => absurd rfl hc⟩
        rintro _ rfl
        refine ⟨fun _ => ?_, fun hc => absurd rfl hc⟩
        exact cp_255 (cp_r0 (cx_259_442 _ _ _ _ _ _ k))
      exact ⟨_, _, kA, kS, cf_wI (decide_eq_true (by omega)), cf_tr (cf_wI (decide_eq_true (by omega))) (cf_mono dw_gs_cf (fun b j h => decide_eq_true (by have h := of_decide_eq_true h; omega))), dw_stop (o := 3) (Or.inl rfl) h ct1 (cf_wI (decide_eq_true (by omega))) (cf_tr (cf_wI (decide_eq_true (by omega))) (cf_mono dw_gs_cf (fun b j h => decide_eq_true (by have h := of_decide_eq_true h; omega)))) (by rw [cp_wI1, if_pos ⟨rfl, rfl⟩]; rfl) (by rw [(dw_gs_cf 83 40 (decide_eq_false (by omega))).1, cp_wI1, if_pos ⟨rfl, rfl⟩]; rfl)⟩
end DMa27
