/-! ## a25 the run machine: nodes evaluated, both sides -/
/-- all that holds as a node is evaluated; A0 and S0 are ahead of the count of steps -/
def dw_E (A0 S0 A S : cm_S) (V : Nat → ct_T) (G : dm_Gs) (nc ne nf nv st lim wc sh dd g q : Nat) (e : ct_D) (a b c t2 : ct_T) (s : Int32) : Prop := A = cm_wI A0 57 7 (Int32.ofNat (st + 1)) ∧ S = cm_wI S0 83 42 (Int32.ofNat (st + 1)) ∧ A0.1 57 7 = Int32.ofNat st ∧ S0.1 83 42 = Int32.ofNat st ∧ A.1 57 10 = Int32.ofNat q ∧ A.1 57 11 = s ∧ dm_P A S V G nc ne nf nv (st + 1) lim wc sh dd ∧ dw_on A S ∧ dm_n A S V g q (ct_nd e a b c) t2 ∧ dm_sx G ne g (ct_nd e a b c) s ∧ nc + 2 ≤ 8009 ∧ ne + 2 < 8000 ∧ nf + 1 < 4064 ∧ nv + 1 < 8192
def dw_Q (A0 S0 A S : cm_S) (V : Nat → ct_T) (nc ne nf nv st lim wc sh dd q : Nat) (s : Int32) : Prop := dw_T (dw_c 61 6 [some (.ref 57), none, none] A0) (dw_c 257 3 [some (.ref 83), some (.int (Int32.ofNat (2400 + q))), some (.int s), none, none, none] S0) A S V (st + 1) lim wc sh dd (nc + dm_nb A nf + 2) (ne + 2 * dm_nb A nf + 2) (nv + dm_nb A nf + 1) (nf + 1) (dm_fw A nf + 2)
/-- one step more is counted -/
theorem dm_P_st {A S : cm_S} {V : Nat → ct_T} {G : dm_Gs} {nc ne nf nv st st2 lim wc sh dd : Nat} (h : dm_P A S V G nc ne nf nv st lim wc sh dd) : dm_P (cm_wI A 57 7 (Int32.ofNat st2)) (cm_wI S 83 42 (Int32.ofNat st2)) V G nc ne nf nv st2 lim wc sh dd := by
  have hA : cf_W (fun b j => decide (b = 57 ∧ j = 7)) A (cm_wI A 57 7 (Int32.ofNat st2)) := cf_wI (decide_eq_true ⟨rfl, rfl⟩)
  have hS : cf_W (fun b j => decide (b = 83 ∧ j = 42)) S (cm_wI S 83 42 (Int32.ofNat st2)) := cf_wI (decide_eq_true ⟨rfl, rfl⟩)
  obtain ⟨h1, h2, h3, h4, h5, h6, h7, h8, h9, h10, h11⟩ := h.2.1
  refine ⟨dm_M_cf hA hS (fun b j hb => decide_eq_false (by omega)) (fun b j hb => decide_eq_false (by omega)) (decide_eq_false (by omega)) (decide_eq_false (by omega)) (decide_eq_false (by omega)) (decide_eq_false (by omega)) (decide_eq_false (by omega)) (decide_eq_false (by omega)) (decide_eq_false (by omega)) h.1, ⟨by rw [cp_wI1, if_pos ⟨rfl, rfl⟩], by rw [cp_wI1, if_pos ⟨rfl, rfl⟩], (hA _ _ (decide_eq_false (by omega))).1.trans h3, (hS _ _ (decide_eq_false (by omega))).1.trans h4, (hA _ _ (decide_eq_false (by omega))).1.trans h5, (hS _ _ (decide_eq_false (by omega))).1.trans h6, (hA _ _ (decide_eq_false (by omega))).1.trans h7, (hS _ _ (decide_eq_false (by omega))).1.trans h8, ?_, fun i hi => ?_, fun i hi => ?_⟩, dm_rA_cf hA hS (fun b j hb => decide_eq_false (by omega)) (fun b j hb => decide_eq_false (by omega)) h.2.2⟩
  · rw [(hA 77 3 (decide_eq_false (by omega))).2, (hS 83 71 (decide_eq_false (by omega))).2]; exact h9
  · rw [(hA 78 i (decide_eq_false (by omega))).1, (hS 129 i (decide_eq_false (by omega))).1]; exact h10 i hi
  · rw [(hA 79 i (decide_eq_false (by omega))).1, (hS 128 i (decide_eq_false (by omega))).1]; exact h11 i hi
/-- a cost centre is entered -/
theorem dm_P_ce {A S : cm_S} {V : Nat → ct_T} {G : dm_Gs} {nc ne nf nv st lim wc sh dd k : Nat} (hk : k < 6) (h : dm_P A S V G nc ne nf nv st lim wc sh dd) : dm_P (cm_wI A 79 k (A.1 79 k + 1)) (cm_wI S 128 k (S.1 128 k + 1)) V G nc ne nf nv st lim wc sh dd := by
  have hA : cf_W (fun b j => decide (b = 79 ∧ j = k)) A (cm_wI A 79 k (A.1 79 k + 1)) := cf_wI (decide_eq_true ⟨rfl, rfl⟩)
  have hS : cf_W (fun b j => decide (b = 128 ∧ j = k)) S (cm_wI S 128 k (S.1 128 k + 1)) := cf_wI (decide_eq_true ⟨rfl, rfl⟩)
  obtain ⟨h1, h2, h3, h4, h5, h6, h7, h8, h9, h10, h11⟩ := h.2.1
  refine ⟨dm_M_cf hA hS (fun b j hb => decide_eq_false (by omega)) (fun b j hb => decide_eq_false (by omega)) (decide_eq_false (by omega)) (decide_eq_false (by omega)) (decide_eq_false (by omega)) (decide_eq_false (by omega)) (decide_eq_false (by omega)) (decide_eq_false (by omega)) (decide_eq_false (by omega)) h.1, ⟨(hA _ _ (decide_eq_false (by omega))).1.trans h1, (hS _ _ (decide_eq_false (by omega))).1.trans h2, (hA _ _ (decide_eq_false (by omega))).1.trans h3, (hS _ _ (decide_eq_false (by omega))).1.trans h4, (hA _ _ (decide_eq_false (by omega))).1.trans h5, (hS _ _ (decide_eq_false (by omega))).1.trans h6, (hA _ _ (decide_eq_false (by omega))).1.trans h7, (hS _ _ (decide_eq_false (by omega))).1.trans h8, ?_, fun i hi => ?_, fun i hi => ?_⟩, dm_rA_cf hA hS (fun b j hb => decide_eq_false (by omega)) (fun b j hb => decide_eq_false (by omega)) h.2.2⟩
  · rw [(hA 77 3 (decide_eq_false (by omega))).2, (hS 83 71 (decide_eq_false (by omega))).2]; exact h9
  · rw [(hA 78 i (decide_eq_false (by omega))).1, (hS 129 i (decide_eq_false (by omega))).1]; exact h10 i hi
  · by_cases hik : i = k
    · rw [cp_wI1, if_pos ⟨rfl, hik⟩, cp_wI1, if_pos ⟨rfl, hik⟩, h11 k hk]
    · rw [cp_wI1, if_neg (fun hc => hik hc.2), cp_wI1, if_neg (fun hc => hik hc.2)]; exact h11 i hi
/-- a cell that was made is something -/
theorem dw_c0 {A S : cm_S} {V : Nat → ct_T} {G : dm_Gs} {nc ne nf nv m : Nat} (h : dm_M A S V G nc ne nf nv) (hm : m < nc) (h9 : 9 ≤ m) : ¬ A.1 65 m = 0 := by
  intro h0
  rcases h.2.2.2.2.2.2.2.2.2.2.1 m hm (by omega) with ⟨h1, h2, _⟩ | ⟨h1, _⟩ | ⟨h1, _⟩ | ⟨v, hv, h1, h2, h3⟩
  · omega
  · rw [h0] at h1; exact absurd h1 (by decide)
  · rw [h0] at h1; exact absurd h1 (by decide)
  · rw [h0] at h2
    rcases h2 with ⟨h4, _⟩ | ⟨h4, _⟩ | ⟨h4, _⟩ | ⟨h4, _⟩ <;> exact absurd h4 (by decide)
theorem dw_cr {A S : cm_S} {V : Nat → ct_T} {G : dm_Gs} {nc ne nf nv : Nat} {x : Int32} (h : dm_M A S V G nc ne nf nv) (hx : dm_cr nc x) : x = -1 ∨ ∃ m, m < nc ∧ ¬ m = 8 ∧ x = Int32.ofNat m ∧ ¬ A.1 65 m = 0 := by
  obtain ⟨m, h1, h2, h3⟩ := hx
  exact Or.inr ⟨m, h1, by omega, h3, dw_c0 h h1 h2⟩
section DMa25
variable {A0 S0 A S : cm_S} {V : Nat → ct_T} {G : dm_Gs} {nc ne nf nv st lim wc sh dd g q : Nat} {e : ct_D} {a b c t2 : ct_T} {s : Int32}
theorem dw_e1 (hE : dw_E A0 S0 A S V G nc ne nf nv st lim wc sh dd g q e a b c t2 s) (he : e.1 = 1) : dw_Q A0 S0 A S V nc ne nf nv st lim wc sh dd q s := by
  obtain ⟨hA, hS, h7, h42, h10, h11, h, hon, hn, hs, hnc, hne, hnf, hnv⟩ := hE
  obtain ⟨f, x, y, z, pa, pb, pc, rfl, hnn, hed, ha, hb, hc⟩ := dm_n_nd hn
  have hq : 2400 + q < 8192 := hnn.1
  have kA : dw_c 61 6 [some (.ref 57), none, none] A0 (de_gv A 1 0 0 e.2.1) := by
    intro L xs d K k
    refine cx_61_0 ?_
    rintro _ rfl
    rw [h7, show Int32.ofNat st + 1 = Int32.ofNat (st + 1) from cp_ad (b := 1), ← hA]
    intro S2 h2
    rw [h2]
    intro x3 h3
    rw [h3, h10]
    refine dm_8 hn (cp_r1 ?_)
    rw [he]
    refine ⟨fun _ => ?_, fun hc => absurd (by decide) hc⟩
    refine dm_11 hn (cp_r2 ?_)
    exact cp_64 (cp_r0 (cx_61_320 _ _ k))
  have kS : dw_c 257 3 [some (.ref 83), some (.int (Int32.ofNat (2400 + q))), some (.int s), none, none, none] S0 (me_gv (me_vl S nv 0 e.2.1 (-1) (-1)) (Int32.ofNat nv)) := by
    intro L xs d K k
    refine cx_257_0 _ _ ?_
    rintro _ rfl
    rw [h42, show Int32.ofNat st + 1 = Int32.ofNat (st + 1) from cp_ad (b := 1), ← hS]
    intro S2 h2
    rw [h2]
    refine ⟨cp_in hq (by decide), ?_⟩
    rw [cp_cl (by omega)]
    intro x3 h3
    rw [h3, (dm_nk hnn).1, ← hed.1, he]
    refine ⟨fun _ => ?_, fun hc => absurd (by decide) hc⟩
    refine ⟨cp_in hq (by decide), ?_⟩
    intro x4 h4
    rw [h4, (dm_nk hnn).2.1, ← hed.2.1]
    refine cp_248 h.1.2.2.2.2.2.2.2.2.1 (by omega) (cp_r1 ?_)
    exact cp_255 (cp_r0 k)
  obtain ⟨v1, v2, v3, v4, v5⟩ := me_vl_at (S := S) (nv := nv) (t := 0) (num := e.2.1) (o1 := (-1)) (o2 := (-1))
  have hv : dm_vl A (me_vl S nv 0 e.2.1 (-1) (-1)) V G ne nc 1 0 0 e.2.1 nv := Or.inl ⟨rfl, v1, v2⟩
  obtain ⟨p1, p2⟩ := dw_giv h hon hv
  exact ⟨_, _, kA, kS, cf_mono dw_gv_cf (fun b j h => decide_eq_true (by have h := of_decide_eq_true h; omega)), cf_tr (cf_mono me_vl_cf (fun b j h => decide_eq_true (by have h := of_decide_eq_true h; omega))) (cf_mono dw_gs_cf (fun b j h => decide_eq_true (by have h := of_decide_eq_true h; omega))), G, nc, ne, nf, nv + 1, p1, dw_ct_cf (A := A) (fun i _ => (dw_gv_cf 73 i (decide_eq_false (by omega))).1) ⟨by omega, by omega, by omega, by omega, by omega⟩, p2⟩
theorem dw_e4 (hE : dw_E A0 S0 A S V G nc ne nf nv st lim wc sh dd g q e a b c t2 s) (he : e.1 = 4) : dw_Q A0 S0 A S V nc ne nf nv st lim wc sh dd q s := by
  obtain ⟨hA, hS, h7, h42, h10, h11, h, hon, hn, hs, hnc, hne, hnf, hnv⟩ := hE
  obtain ⟨f, x, y, z, pa, pb, pc, rfl, hnn, hed, ha, hb, hc⟩ := dm_n_nd hn
  have hq : 2400 + q < 8192 := hnn.1
  have kA : dw_c 61 6 [some (.ref 57), none, none] A0 (de_gv A 4 (Int32.ofNat q) s 0) := by
    intro L xs d K k
    refine cx_61_0 ?_
    rintro _ rfl
    rw [h7, show Int32.ofNat st + 1 = Int32.ofNat (st + 1) from cp_ad (b := 1), ← hA]
    intro S2 h2
    rw [h2]
    intro x3 h3
    rw [h3, h10]
    refine dm_8 hn (cp_r1 ?_)
    rw [he]
    refine ⟨fun hc => absurd hc (by decide), fun _ => ⟨fun hc => absurd hc (by decide), fun _ => ⟨fun hc => absurd hc (by decide), fun _ => ⟨fun _ => ?_, fun hc => absurd (by decide) hc⟩⟩⟩⟩
    intro x5 h5
    rw [h5, h11]
    exact cp_64 (cp_r0 (cx_61_320 _ _ k))
  have kS : dw_c 257 3 [some (.ref 83), some (.int (Int32.ofNat (2400 + q))), some (.int s), none, none, none] S0 (me_gv (me_vl S nv 1 0 (Int32.ofNat (2400 + q)) s) (Int32.ofNat nv)) := by
    intro L xs d K k
    refine cx_257_0 _ _ ?_
    rintro _ rfl
    rw [h42, show Int32.ofNat st + 1 = Int32.ofNat (st + 1) from cp_ad (b := 1), ← hS]
    intro S2 h2
    rw [h2]
    refine ⟨cp_in hq (by decide), ?_⟩
    rw [cp_cl (by omega)]
    intro x3 h3
    rw [h3, (dm_nk hnn).1, ← hed.1, he]
    refine ⟨fun hc => absurd hc (by decide), fun _ => ⟨fun _ => ?_, fun hc => absurd (by decide) hc⟩⟩
    refine cp_248 h.1.2.2.2.2.2.2.2.2.1 (by omega) (cp_r1 ?_)
    exact cp_255 (cp_r0 k)
  obtain ⟨v1, v2, v3, v4, v5⟩ := me_vl_at (S := S) (nv := nv) (t := 1) (num := 0) (o1 := (Int32.ofNat (2400 + q))) (o2 := s)
  have hv : dm_vl A (me_vl S nv 1 0 (Int32.ofNat (2400 + q)) s) V G ne nc 4 (Int32.ofNat q) s 0 nv := Or.inr (Or.inl ⟨rfl, v1, g, q, e, a, b, c, _, rfl, dm_n_cf (W := fun _ _ => false) cf_rfl (fun b j q1 q2 => rfl) me_vl_cf (fun b x q1 q2 q3 q4 => decide_eq_false (by omega)) hn, he, v3, v4, hs⟩)
  obtain ⟨p1, p2⟩ := dw_giv h hon hv
  exact ⟨_, _, kA, kS, cf_mono dw_gv_cf (fun b j h => decide_eq_true (by have h := of_decide_eq_true h; omega)), cf_tr (cf_mono me_vl_cf (fun b j h => decide_eq_true (by have h := of_decide_eq_true h; omega))) (cf_mono dw_gs_cf (fun b j h => decide_eq_true (by have h := of_decide_eq_true h; omega))), G, nc, ne, nf, nv + 1, p1, dw_ct_cf (A := A) (fun i _ => (dw_gv_cf 73 i (decide_eq_false (by omega))).1) ⟨by omega, by omega, by omega, by omega, by omega⟩, p2⟩
theorem dw_e10 (hE : dw_E A0 S0 A S V G nc ne nf nv st lim wc sh dd g q e a b c t2 s) (he : e.1 = 10) : dw_Q A0 S0 A S V nc ne nf nv st lim wc sh dd q s := by
  obtain ⟨hA, hS, h7, h42, h10, h11, h, hon, hn, hs, hnc, hne, hnf, hnv⟩ := hE
  obtain ⟨f, x, y, z, pa, pb, pc, rfl, hnn, hed, ha, hb, hc⟩ := dm_n_nd hn
  have hq : 2400 + q < 8192 := hnn.1
  have kA : dw_c 61 6 [some (.ref 57), none, none] A0 (de_gv A 10 0 0 0) := by
    intro L xs d K k
    refine cx_61_0 ?_
    rintro _ rfl
    rw [h7, show Int32.ofNat st + 1 = Int32.ofNat (st + 1) from cp_ad (b := 1), ← hA]
    intro S2 h2
    rw [h2]
    intro x3 h3
    rw [h3, h10]
    refine dm_8 hn (cp_r1 ?_)
    rw [he]
    refine ⟨fun hc => absurd hc (by decide), fun _ => ⟨fun hc => absurd hc (by decide), fun _ => ⟨fun hc => absurd hc (by decide), fun _ => ⟨fun hc => absurd hc (by decide), fun _ => ⟨fun hc => absurd hc (by decide), fun _ => ⟨fun hc => absurd hc (by decide), fun _ => ⟨fun hc => absurd hc (by decide), fun _ => ⟨fun hc => absurd hc (by decide), fun _ => ⟨fun hc => absurd hc (by decide), fun _ => ⟨fun _ => ?_, fun hc => absurd (by decide) hc⟩⟩⟩⟩⟩⟩⟩⟩⟩⟩
    exact cp_64 (cp_r0 (cx_61_320 _ _ k))
  have kS : dw_c 257 3 [some (.ref 83), some (.int (Int32.ofNat (2400 + q))), some (.int s), none, none, none] S0 (me_gv (me_vl S nv 2 0 (-1) (-1)) (Int32.ofNat nv)) := by
    intro L xs d K k
    refine cx_257_0 _ _ ?_
    rintro _ rfl
    rw [h42, show Int32.ofNat st + 1 = Int32.ofNat (st + 1) from cp_ad (b := 1), ← hS]
    intro S2 h2
    rw [h2]
    refine ⟨cp_in hq (by decide), ?_⟩
    rw [cp_cl (by omega)]
    intro x3 h3
    rw [h3, (dm_nk hnn).1, ← hed.1, he]
    refine ⟨fun hc => absurd hc (by decide), fun _ => ⟨fun hc => absurd hc (by decide), fun _ => ⟨fun _ => ?_, fun hc => absurd (by decide) hc⟩⟩⟩
    refine cp_248 h.1.2.2.2.2.2.2.2.2.1 (by omega) (cp_r1 ?_)
    exact cp_255 (cp_r0 k)
  obtain ⟨v1, v2, v3, v4, v5⟩ := me_vl_at (S := S) (nv := nv) (t := 2) (num := 0) (o1 := (-1)) (o2 := (-1))
  have hv : dm_vl A (me_vl S nv 2 0 (-1) (-1)) V G ne nc 10 0 0 0 nv := Or.inr (Or.inr (Or.inl ⟨rfl, v1, v2⟩))
  obtain ⟨p1, p2⟩ := dw_giv h hon hv
  exact ⟨_, _, kA, kS, cf_mono dw_gv_cf (fun b j h => decide_eq_true (by have h := of_decide_eq_true h; omega)), cf_tr (cf_mono me_vl_cf (fun b j h => decide_eq_true (by have h := of_decide_eq_true h; omega))) (cf_mono dw_gs_cf (fun b j h => decide_eq_true (by have h := of_decide_eq_true h; omega))), G, nc, ne, nf, nv + 1, p1, dw_ct_cf (A := A) (fun i _ => (dw_gv_cf 73 i (decide_eq_false (by omega))).1) ⟨by omega, by omega, by omega, by omega, by omega⟩, p2⟩
theorem dw_e2 (hE : dw_E A0 S0 A S V G nc ne nf nv st lim wc sh dd g q e a b c t2 s) (he : e.1 = 2) : dw_Q A0 S0 A S V nc ne nf nv st lim wc sh dd q s := by
  obtain ⟨hA, hS, h7, h42, h10, h11, h, hon, hn, hs, hnc, hne, hnf, hnv⟩ := hE
  obtain ⟨f, x, y, z, pa, pb, pc, rfl, hnn, hed, ha, hb, hc⟩ := dm_n_nd hn
  have hq : 2400 + q < 8192 := hnn.1
  have hE2 := h.1.2.2.2.2.2.2.2.2.2.1
  have hxy := dm_nm1 hn (dt_w_nd hn.2.2.2.1).1 hed (Or.inl he)
  obtain ⟨A1, S1, c1, c2, fA, fS, go⟩ := dw_asks h hon (by omega) (by omega) (by omega) (dw_cr h.1 (dm_fd_cr (x := e.2.2.1) hE2 (by omega) ne 8000 s (Nat.le_refl _) (by omega) (dm_l2 hs he)))
  have kA : dw_c 61 6 [some (.ref 57), none, none] A0 (A1) := by
    intro L xs d K k
    refine cx_61_0 ?_
    rintro _ rfl
    rw [h7, show Int32.ofNat st + 1 = Int32.ofNat (st + 1) from cp_ad (b := 1), ← hA]
    intro S2 h2
    rw [h2]
    intro x3 h3
    rw [h3, h10]
    refine dm_8 hn (cp_r1 ?_)
    rw [he]
    refine ⟨fun hc => absurd hc (by decide), fun _ => ⟨fun _ => ?_, fun hc => absurd (by decide) hc⟩⟩
    refine dm_9 hn (cp_r1 ?_)
    intro x5 h5
    rw [h5, h11]
    refine dm_127 hE2 (by omega) hs.1 (cp_r1 ?_)
    exact c1 L xs d _ (cp_r0 (cx_61_320 _ _ k))
  have kS : dw_c 257 3 [some (.ref 83), some (.int (Int32.ofNat (2400 + q))), some (.int s), none, none, none] S0 (S1) := by
    intro L xs d K k
    refine cx_257_0 _ _ ?_
    rintro _ rfl
    rw [h42, show Int32.ofNat st + 1 = Int32.ofNat (st + 1) from cp_ad (b := 1), ← hS]
    intro S2 h2
    rw [h2]
    refine ⟨cp_in hq (by decide), ?_⟩
    rw [cp_cl (by omega)]
    intro x3 h3
    rw [h3, (dm_nk hnn).1, ← hed.1, he]
    refine ⟨fun hc => absurd hc (by decide), fun _ => ⟨fun hc => absurd hc (by decide), fun _ => ⟨fun hc => absurd hc (by decide), fun _ => ⟨fun hc => absurd hc (by decide), fun _ => ⟨fun _ => ?_, fun hc => absurd (by decide) hc⟩⟩⟩⟩⟩
    refine ⟨cp_in hq (by decide), ?_⟩
    intro x4 h4
    rw [h4, (dm_nk hnn).2.2.1]
    refine dm_251 (h.1.1 g hn.1) hxy hE2 (by omega) hs.1 (cp_r1 ?_)
    exact c2 L xs d _ (cp_r0 k)
  exact ⟨A1, S1, kA, kS, fA, fS, dw_go_mo go (by omega) (by omega) (by omega) (by omega) (by omega)⟩
theorem dw_e3 (hE : dw_E A0 S0 A S V G nc ne nf nv st lim wc sh dd g q e a b c t2 s) (he : e.1 = 3) : dw_Q A0 S0 A S V nc ne nf nv st lim wc sh dd q s := by
  obtain ⟨hA, hS, h7, h42, h10, h11, h, hon, hn, hs, hnc, hne, hnf, hnv⟩ := hE
  obtain ⟨f, x, y, z, pa, pb, pc, rfl, hnn, hed, ha, hb, hc⟩ := dm_n_nd hn
  have hq : 2400 + q < 8192 := hnn.1
  obtain ⟨i, hi, hie⟩ := cu_l64 (m := 8) (by omega) ((dt_w_nd hn.2.2.2.1).2.1.1 he)
  have hi32 : e.2.1.toInt32 = Int32.ofNat i := by rw [hie]; exact (dk_i64 hi).2
  have hmc : dm_mc i = i := by unfold dm_mc; rw [if_pos (by omega)]
  have hcl := h.1.2.2.2.2.2.2.2.2.2.2.1 i (by have := h.1.2.1; omega) (by omega)
  by_cases h0 : A.1 65 i = 0
  · have s1 : S.1 114 i = -1 := by
      rcases hcl with ⟨_, _, h2, _⟩ | ⟨h1, _⟩ | ⟨h1, _⟩ | ⟨v, hv, _, h2, _⟩
      · rw [hmc] at h2; exact h2
      · rw [h0] at h1; exact absurd h1 (by decide)
      · rw [h0] at h1; exact absurd h1 (by decide)
      · rw [h0] at h2
        rcases h2 with ⟨h4, _⟩ | ⟨h4, _⟩ | ⟨h4, _⟩ | ⟨h4, _⟩ <;> exact absurd h4 (by decide)
    have kA : dw_c 61 6 [some (.ref 57), none, none] A0 (cm_wI A 57 6 3) := by
      intro L xs d K k
      refine cx_61_0 ?_
      rintro _ rfl
      rw [h7, show Int32.ofNat st + 1 = Int32.ofNat (st + 1) from cp_ad (b := 1), ← hA]
      intro S2 h2
      rw [h2]
      intro x3 h3
      rw [h3, h10]
      refine dm_8 hn (cp_r1 ?_)
      rw [he]
      refine ⟨fun hc => absurd hc (by decide), fun _ => ⟨fun hc => absurd hc (by decide), fun _ => ⟨fun _ => ?_, fun hc => absurd (by decide) hc⟩⟩⟩
      refine dm_11 hn (cp_r2 ?_)
      rw [hi32]
      refine cp_66 (nc := nc) (nf := nf) (d := d) h.1.2.2.1 (by omega) h.1.2.2.2.2.2.2.1 (by omega) (by have := h.1.2.1; omega) (cp_r0 ?_)
      unfold de_en
      rw [if_neg (by rw [h0]; decide), if_neg (by rw [h0]; decide), if_pos h0]
      exact cx_61_320 _ _ k
    have kS : dw_c 257 3 [some (.ref 83), some (.int (Int32.ofNat (2400 + q))), some (.int s), none, none, none] S0 (cm_wI S 83 40 3) := by
      intro L xs d K k
      refine cx_257_0 _ _ ?_
      rintro _ rfl
      rw [h42, show Int32.ofNat st + 1 = Int32.ofNat (st + 1) from cp_ad (b := 1), ← hS]
      intro S2 h2
      rw [h2]
      refine ⟨cp_in hq (by decide), ?_⟩
      rw [cp_cl (by omega)]
      intro x3 h3
      rw [h3, (dm_nk hnn).1, ← hed.1, he]
      refine ⟨fun hc => absurd hc (by decide), fun _ => ⟨fun hc => absurd hc (by decide), fun _ => ⟨fun hc => absurd hc (by decide), fun _ => ⟨fun hc => absurd hc (by decide), fun _ => ⟨fun hc => absurd hc (by decide), fun _ => ⟨fun _ => ?_, fun hc => absurd (by decide) hc⟩⟩⟩⟩⟩⟩
      refine ⟨cp_in hq (by decide), ?_⟩
      intro x4 h4
      rw [h4, (dm_nk hnn).2.1, ← hed.2.1, hi32]
      refine cx_260_0 _ ⟨cp_in (by omega) (by decide), ?_⟩
      rw [cp_cl (by omega)]
      intro x5 h5
      rw [h5, s1]
      refine ⟨fun _ => ⟨Or.inl rfl, ?_⟩, fun hc => absurd rfl hc⟩
      refine cp_r1 ⟨fun _ => ?_, fun hc => absurd rfl hc⟩
      exact cp_256n (cp_r0 k)
    have ct0 : dw_ct A nc ne nf nv (nc + dm_nb A nf + 2) (ne + 2 * dm_nb A nf + 2) (nv + dm_nb A nf + 1) (nf + 1) (dm_fw A nf + 2) := ⟨by omega, by omega, by omega, by omega, by omega⟩
    exact ⟨_, _, kA, kS, cf_wI (decide_eq_true (by omega)), cf_wI (decide_eq_true (by omega)), dw_stop (o := 3) (Or.inl rfl) h ct0 (cf_wI (decide_eq_true (by omega))) (cf_wI (decide_eq_true (by omega))) (by rw [cp_wI1, if_pos ⟨rfl, rfl⟩]; rfl) (by rw [cp_wI1, if_pos ⟨rfl, rfl⟩]; rfl)⟩
  have s1 : ¬ S.1 114 i = -1 := by
    rcases hcl with ⟨h1, _⟩ | ⟨_, ⟨g2, q2, u, u2, h2, h3, h4, h5⟩, _⟩ | ⟨_, _, _, h2⟩ | ⟨v, hv, _, _, h2⟩
    · exact absurd h1 h0
    · rw [hmc] at h4
      rw [h4]
      exact cp_m1 (by have := h3.1; have := h3.2.2.1; have := ct_sz_ne h3.2.2.2.1.1 h3.2.2.2.2.2.1; omega)
    · rw [hmc] at h2; exact h2 (by omega)
    · rw [hmc] at h2; exact h2 (by omega)
  obtain ⟨A1, S1, c1, c2, fA, fS, go⟩ := dw_asks h hon (by omega) (by omega) (by omega) (Or.inr ⟨i, by have := h.1.2.1; omega, by omega, rfl, h0⟩)
  rw [dm_ce_at (by omega), hmc] at c2
  have kA : dw_c 61 6 [some (.ref 57), none, none] A0 (A1) := by
    intro L xs d K k
    refine cx_61_0 ?_
    rintro _ rfl
    rw [h7, show Int32.ofNat st + 1 = Int32.ofNat (st + 1) from cp_ad (b := 1), ← hA]
    intro S2 h2
    rw [h2]
    intro x3 h3
    rw [h3, h10]
    refine dm_8 hn (cp_r1 ?_)
    rw [he]
    refine ⟨fun hc => absurd hc (by decide), fun _ => ⟨fun hc => absurd hc (by decide), fun _ => ⟨fun _ => ?_, fun hc => absurd (by decide) hc⟩⟩⟩
    refine dm_11 hn (cp_r2 ?_)
    rw [hi32]
    exact c1 L xs d _ (cp_r0 (cx_61_320 _ _ k))
  have kS : dw_c 257 3 [some (.ref 83), some (.int (Int32.ofNat (2400 + q))), some (.int s), none, none, none] S0 (S1) := by
    intro L xs d K k
    refine cx_257_0 _ _ ?_
    rintro _ rfl
    rw [h42, show Int32.ofNat st + 1 = Int32.ofNat (st + 1) from cp_ad (b := 1), ← hS]
    intro S2 h2
    rw [h2]
    refine ⟨cp_in hq (by decide), ?_⟩
    rw [cp_cl (by omega)]
    intro x3 h3
    rw [h3, (dm_nk hnn).1, ← hed.1, he]
    refine ⟨fun hc => absurd hc (by decide), fun _ => ⟨fun hc => absurd hc (by decide), fun _ => ⟨fun hc => absurd hc (by decide), fun _ => ⟨fun hc => absurd hc (by decide), fun _ => ⟨fun hc => absurd hc (by decide), fun _ => ⟨fun _ => ?_, fun hc => absurd (by decide) hc⟩⟩⟩⟩⟩⟩
    refine ⟨cp_in hq (by decide), ?_⟩
    intro x4 h4
    rw [h4, (dm_nk hnn).2.1, ← hed.2.1, hi32]
    refine cx_260_0 _ ⟨cp_in (by omega) (by decide), ?_⟩
    rw [cp_cl (by omega)]
    intro x5 h5
    rw [h5]
    refine ⟨fun hc => absurd hc s1, fun _ => ⟨Or.inr rfl, ?_⟩⟩
    refine cp_r1 ⟨fun hc => absurd hc (by decide), fun _ => ⟨cp_in hq (by decide), ?_⟩⟩
    intro x6 h6
    rw [h6, (dm_nk hnn).2.1, ← hed.2.1, hi32]
    exact c2 L xs d _ (cp_r0 k)
  exact ⟨A1, S1, kA, kS, fA, fS, dw_go_mo go (by omega) (by omega) (by omega) (by omega) (by omega)⟩
theorem dw_e14 (hE : dw_E A0 S0 A S V G nc ne nf nv st lim wc sh dd g q e a b c t2 s) (he : e.1 = 14) : dw_Q A0 S0 A S V nc ne nf nv st lim wc sh dd q s := by
  obtain ⟨hA, hS, h7, h42, h10, h11, h, hon, hn, hs, hnc, hne, hnf, hnv⟩ := hE
  obtain ⟨f, x, y, z, pa, pb, pc, rfl, hnn, hed, ha, hb, hc⟩ := dm_n_nd hn
  have hq : 2400 + q < 8192 := hnn.1
  obtain ⟨i, hi, hie⟩ := cu_l64 (m := 6) (by omega) ((dt_w_nd hn.2.2.2.1).2.1.2.2.1 he)
  have hi32 : e.2.1.toInt32 = Int32.ofNat i := by rw [hie]; exact (dk_i64 (by omega)).2
  have la : ¬ a = .leaf := fun hl => absurd ((ct_wf_nd hn.2.2.2.1.1).2.1.mp hl) (by rw [ct_ar_of.2.2.1 (Or.inr he)]; omega)
  obtain ⟨hpa, hna⟩ := ha la
  have fA1 : cf_W (fun b j => decide (b = 79)) A (cm_wI A 79 i (A.1 79 i + 1)) := cf_wI (decide_eq_true rfl)
  have fS1 : cf_W (fun b j => decide (b = 128)) S (cm_wI S 128 i (S.1 128 i + 1)) := cf_wI (decide_eq_true rfl)
  have p0 := dm_P_ce hi h
  have hna2 := dm_n_cf fA1 (fun b j q1 q2 => decide_eq_false (by omega)) fS1 (fun b x q1 q2 q3 q4 => decide_eq_false (by omega)) hna
  have hnA := dm_n_cf fA1 (fun b j q1 q2 => decide_eq_false (by omega)) (cf_rfl (W := fun _ _ => false) (S := S)) (fun b x q1 q2 q3 q4 => rfl) hn
  obtain ⟨p1, p2⟩ := dw_evn p0 ⟨(fA1 57 6 (decide_eq_false (by omega))).1.trans hon.1, (fS1 83 40 (decide_eq_false (by omega))).1.trans hon.2⟩ hna2 (dm_sx_a hs (by rw [he]; decide))
  have kA : dw_c 61 6 [some (.ref 57), none, none] A0 (de_nx (cm_wI A 79 i (A.1 79 i + 1)) (Int32.ofNat (q + 1)) s) := by
    intro L xs d K k
    refine cx_61_0 ?_
    rintro _ rfl
    rw [h7, show Int32.ofNat st + 1 = Int32.ofNat (st + 1) from cp_ad (b := 1), ← hA]
    intro S2 h2
    rw [h2]
    intro x3 h3
    rw [h3, h10]
    refine dm_8 hn (cp_r1 ?_)
    rw [he]
    refine ⟨fun hc => absurd hc (by decide), fun _ => ⟨fun hc => absurd hc (by decide), fun _ => ⟨fun hc => absurd hc (by decide), fun _ => ⟨fun hc => absurd hc (by decide), fun _ => ⟨fun hc => absurd hc (by decide), fun _ => ⟨fun hc => absurd hc (by decide), fun _ => ⟨fun hc => absurd hc (by decide), fun _ => ⟨fun hc => absurd hc (by decide), fun _ => ⟨fun hc => absurd hc (by decide), fun _ => ⟨fun hc => absurd hc (by decide), fun _ => ⟨fun hc => absurd hc (by decide), fun _ => ⟨fun hc => absurd hc (by decide), fun _ => ⟨fun hc => absurd hc (by decide), fun _ => ⟨fun _ => ?_, fun hc => absurd (by decide) hc⟩⟩⟩⟩⟩⟩⟩⟩⟩⟩⟩⟩⟩⟩
    refine dm_11 hn (cp_r2 ?_)
    refine dm_11 hn (cp_r2 ?_)
    rw [hi32]
    refine cp_166 (by decide) (cp_r1 ?_)
    rw [cp_g_at (by rw [dm_rl.2.2.2.2.2.2.2.2.2.2.2.2]; omega) (by decide +kernel)]
    refine cp_167 (by decide) (cp_r0 ?_)
    rw [cp_w_at (by rw [dm_rl.2.2.2.2.2.2.2.2.2.2.2.2]; omega) (by decide +kernel)]
    refine dm_14 (cp_r1 ?_)
    intro x4 h4
    rw [h4, (fA1 57 11 (decide_eq_false (by omega))).1, h11]
    exact cp_63 (cp_r0 (cx_61_320 _ _ k))
  have kS : dw_c 257 3 [some (.ref 83), some (.int (Int32.ofNat (2400 + q))), some (.int s), none, none, none] S0 (me_ev (cm_wI S 128 i (S.1 128 i + 1)) (Int32.ofNat (2400 + (q + 1))) s) := by
    intro L xs d K k
    refine cx_257_0 _ _ ?_
    rintro _ rfl
    rw [h42, show Int32.ofNat st + 1 = Int32.ofNat (st + 1) from cp_ad (b := 1), ← hS]
    intro S2 h2
    rw [h2]
    refine ⟨cp_in hq (by decide), ?_⟩
    rw [cp_cl (by omega)]
    intro x3 h3
    rw [h3, (dm_nk hnn).1, ← hed.1, he]
    refine ⟨fun hc => absurd hc (by decide), fun _ => ⟨fun hc => absurd hc (by decide), fun _ => ⟨fun hc => absurd hc (by decide), fun _ => ⟨fun hc => absurd hc (by decide), fun _ => ⟨fun hc => absurd hc (by decide), fun _ => ⟨fun hc => absurd hc (by decide), fun _ => ⟨fun hc => absurd hc (by decide), fun _ => ⟨fun hc => absurd hc (by decide), fun _ => ?_⟩⟩⟩⟩⟩⟩⟩⟩
    refine cx_258_0 _ _ _ ⟨fun _ => ?_, fun hc => absurd rfl hc⟩
    refine ⟨cp_in hq (by decide), ?_⟩
    rw [cp_cl (by omega)]
    intro x4 h4
    rw [h4, (dm_nk hnn).2.1, ← hed.2.1, hi32]
    refine ⟨cp_in hi (by decide), ?_⟩
    rw [cp_cl (by omega)]
    intro x5 h5
    rw [h5]
    refine ⟨cp_in hi (by decide), ?_⟩
    intro S3 h3
    rw [h3]
    refine ⟨cp_in hq (by decide), ?_⟩
    intro x6 h6
    rw [h6, (fS1 94 (2400 + q) (decide_eq_false (by omega))).1, hnn.2.2.1, hpa]
    refine cp_254 (cp_r0 ?_)
    try dsimp only [cm_sh]
    exact cp_r0 k
  exact ⟨_, _, kA, kS, cf_tr (cf_mono fA1 (fun b j h => decide_eq_true (by have h := of_decide_eq_true h; omega))) (cf_mono dw_nx_cf (fun b j h => decide_eq_true (by have h := of_decide_eq_true h; omega))), cf_tr (cf_mono fS1 (fun b j h => decide_eq_true (by have h := of_decide_eq_true h; omega))) (cf_mono dw_ev_cf (fun b j h => decide_eq_true (by have h := of_decide_eq_true h; omega))), G, nc, ne, nf, nv, p1, dw_ct_cf (A := A) (fun i2 _ => (dw_nx_cf 73 i2 (decide_eq_false (by omega))).1.trans (fA1 73 i2 (decide_eq_false (by omega))).1) ⟨by omega, by omega, by omega, by omega, by omega⟩, p2⟩
theorem dw_e5 (hE : dw_E A0 S0 A S V G nc ne nf nv st lim wc sh dd g q e a b c t2 s) (he : e.1 = 5) : dw_Q A0 S0 A S V nc ne nf nv st lim wc sh dd q s := by
  obtain ⟨hA, hS, h7, h42, h10, h11, h, hon, hn, hs, hnc, hne, hnf, hnv⟩ := hE
  obtain ⟨f, x, y, z, pa, pb, pc, rfl, hnn, hed, ha, hb, hc⟩ := dm_n_nd hn
  have hq : 2400 + q < 8192 := hnn.1
  have la : ¬ a = .leaf := fun hl => absurd ((ct_wf_nd hn.2.2.2.1.1).2.1.mp hl) (by rw [(ct_ar_of (k := e.1)).1 (by rw [he]; decide)]; omega)
  obtain ⟨hpa, hna⟩ := ha la
  obtain ⟨u1, u2, u3, u4, u5⟩ := de_ps_at (A := A) (nf := nf) (k := 5) (p := Int32.ofNat q) (s := s) (num := 0)
  obtain ⟨v1, v2, v3, v4⟩ := me_ws_at (S := S) (nf := nf) (k := 1) (p := Int32.ofNat (2400 + q)) (s := s)
  have fA1 : cf_W (fun b j => decide (73 ≤ b ∧ b ≤ 76 ∧ j = nf ∨ b = 72 ∧ j = 4)) A (de_ps A nf 5 (Int32.ofNat q) s 0) := de_ps_cf
  have fS1 : cf_W (fun b j => decide (125 ≤ b ∧ b ≤ 127 ∧ j = nf ∨ b = 83 ∧ j = 59)) S (me_ws S nf 1 (Int32.ofNat (2400 + q)) s) := me_ws_cf
  have hn2 := dm_n_cf fA1 (fun b j q1 q2 => decide_eq_false (by omega)) fS1 (fun b x q1 q2 q3 q4 => decide_eq_false (by omega)) hn
  have hna2 := dm_n_cf fA1 (fun b j q1 q2 => decide_eq_false (by omega)) fS1 (fun b x q1 q2 q3 q4 => decide_eq_false (by omega)) hna
  have p0 := dm_P_ps (k := 5) (p := Int32.ofNat q) (s := s) (k2 := 1) (p2 := Int32.ofNat (2400 + q)) (s2 := s) (num := 0) h (Or.inr ⟨g, q, e, a, b, c, _, u2, hn2, v2, Or.inl ⟨u1.trans he.symm, by rw [he, v1]; unfold dm_fk; decide, by rw [u3]; exact hs, by rw [v3, u3]⟩⟩) (fun hc => absurd hc (by decide))
  obtain ⟨p1, p2⟩ := dw_evn p0 ⟨(fA1 57 6 (decide_eq_false (by omega))).1.trans hon.1, (fS1 83 40 (decide_eq_false (by omega))).1.trans hon.2⟩ hna2 (dm_sx_a hs (by rw [he]; decide))
  obtain ⟨n1, n2⟩ := dw_ps (A := A) (nf := nf) (k := 5) (p := Int32.ofNat q) (s := s) (num := 0)
  rw [if_neg (by decide)] at n1
  rw [if_neg (by decide)] at n2
  have kA : dw_c 61 6 [some (.ref 57), none, none] A0 (de_nx (de_ps A nf 5 (Int32.ofNat q) s 0) (Int32.ofNat (q + 1)) s) := by
    intro L xs d K k
    refine cx_61_0 ?_
    rintro _ rfl
    rw [h7, show Int32.ofNat st + 1 = Int32.ofNat (st + 1) from cp_ad (b := 1), ← hA]
    intro S2 h2
    rw [h2]
    intro x3 h3
    rw [h3, h10]
    refine dm_8 hn (cp_r1 ?_)
    rw [he]
    refine ⟨fun hc => absurd hc (by decide), fun _ => ⟨fun hc => absurd hc (by decide), fun _ => ⟨fun hc => absurd hc (by decide), fun _ => ⟨fun hc => absurd hc (by decide), fun _ => ⟨fun _ => ?_, fun hc => absurd (by decide) hc⟩⟩⟩⟩⟩
    refine cx_61_283 _ ?_
    refine dm_8 hn (cp_r1 ?_)
    rw [he]
    intro x4 h4
    rw [h4, h11]
    refine cp_56 h.1.2.2.2.2.2.2.1 (by omega) (cp_r0 ?_)
    refine dm_14 (cp_r1 ?_)
    intro x5 h5
    rw [h5, (fA1 57 11 (decide_eq_false (by omega))).1, h11]
    exact cp_63 (cp_r0 (cx_61_320 _ _ k))
  have kS : dw_c 257 3 [some (.ref 83), some (.int (Int32.ofNat (2400 + q))), some (.int s), none, none, none] S0 (me_ev (me_ws S nf 1 (Int32.ofNat (2400 + q)) s) (Int32.ofNat (2400 + (q + 1))) s) := by
    intro L xs d K k
    refine cx_257_0 _ _ ?_
    rintro _ rfl
    rw [h42, show Int32.ofNat st + 1 = Int32.ofNat (st + 1) from cp_ad (b := 1), ← hS]
    intro S2 h2
    rw [h2]
    refine ⟨cp_in hq (by decide), ?_⟩
    rw [cp_cl (by omega)]
    intro x3 h3
    rw [h3, (dm_nk hnn).1, ← hed.1, he]
    refine ⟨fun hc => absurd hc (by decide), fun _ => ⟨fun hc => absurd hc (by decide), fun _ => ⟨fun hc => absurd hc (by decide), fun _ => ⟨fun hc => absurd hc (by decide), fun _ => ⟨fun hc => absurd hc (by decide), fun _ => ⟨fun hc => absurd hc (by decide), fun _ => ⟨fun hc => absurd hc (by decide), fun _ => ⟨fun hc => absurd hc (by decide), fun _ => ?_⟩⟩⟩⟩⟩⟩⟩⟩
    refine cx_258_0 _ _ _ ⟨fun hc => absurd hc (by decide), fun _ => ⟨fun _ => ?_, fun hc => absurd (by decide) hc⟩⟩
    refine cp_253 h.1.2.2.2.2.2.2.2.1 (by omega) (cp_r0 ?_)
    refine ⟨cp_in hq (by decide), ?_⟩
    rw [cp_cl (by omega)]
    intro x4 h4
    rw [h4, (fS1 94 (2400 + q) (decide_eq_false (by omega))).1, hnn.2.2.1, hpa]
    refine cp_254 (cp_r0 ?_)
    try dsimp only [cm_sh]
    exact cp_r0 k
  refine ⟨_, _, kA, kS, cf_tr (cf_mono fA1 (fun b j h => decide_eq_true (by have h := of_decide_eq_true h; omega))) (cf_mono dw_nx_cf (fun b j h => decide_eq_true (by have h := of_decide_eq_true h; omega))), cf_tr (cf_mono fS1 (fun b j h => decide_eq_true (by have h := of_decide_eq_true h; omega))) (cf_mono dw_ev_cf (fun b j h => decide_eq_true (by have h := of_decide_eq_true h; omega))), G, nc, ne, nf + 1, nv, p1, dw_ct_cf (A := de_ps A nf 5 (Int32.ofNat q) s 0) (fun i2 _ => (dw_nx_cf 73 i2 (decide_eq_false (by omega))).1) ?_, p2⟩
  unfold dw_ct
  rw [n1, n2]
  exact ⟨by omega, by omega, by omega, by omega, by omega⟩
theorem dw_e8 (hE : dw_E A0 S0 A S V G nc ne nf nv st lim wc sh dd g q e a b c t2 s) (he : e.1 = 8) : dw_Q A0 S0 A S V nc ne nf nv st lim wc sh dd q s := by
  obtain ⟨hA, hS, h7, h42, h10, h11, h, hon, hn, hs, hnc, hne, hnf, hnv⟩ := hE
  obtain ⟨f, x, y, z, pa, pb, pc, rfl, hnn, hed, ha, hb, hc⟩ := dm_n_nd hn
  have hq : 2400 + q < 8192 := hnn.1
  have la : ¬ a = .leaf := fun hl => absurd ((ct_wf_nd hn.2.2.2.1.1).2.1.mp hl) (by rw [(ct_ar_of (k := e.1)).1 (by rw [he]; decide)]; omega)
  obtain ⟨hpa, hna⟩ := ha la
  obtain ⟨u1, u2, u3, u4, u5⟩ := de_ps_at (A := A) (nf := nf) (k := 8) (p := Int32.ofNat q) (s := s) (num := 0)
  obtain ⟨v1, v2, v3, v4⟩ := me_ws_at (S := S) (nf := nf) (k := 2) (p := Int32.ofNat (2400 + q)) (s := s)
  have fA1 : cf_W (fun b j => decide (73 ≤ b ∧ b ≤ 76 ∧ j = nf ∨ b = 72 ∧ j = 4)) A (de_ps A nf 8 (Int32.ofNat q) s 0) := de_ps_cf
  have fS1 : cf_W (fun b j => decide (125 ≤ b ∧ b ≤ 127 ∧ j = nf ∨ b = 83 ∧ j = 59)) S (me_ws S nf 2 (Int32.ofNat (2400 + q)) s) := me_ws_cf
  have hn2 := dm_n_cf fA1 (fun b j q1 q2 => decide_eq_false (by omega)) fS1 (fun b x q1 q2 q3 q4 => decide_eq_false (by omega)) hn
  have hna2 := dm_n_cf fA1 (fun b j q1 q2 => decide_eq_false (by omega)) fS1 (fun b x q1 q2 q3 q4 => decide_eq_false (by omega)) hna
  have p0 := dm_P_ps (k := 8) (p := Int32.ofNat q) (s := s) (k2 := 2) (p2 := Int32.ofNat (2400 + q)) (s2 := s) (num := 0) h (Or.inr ⟨g, q, e, a, b, c, _, u2, hn2, v2, Or.inl ⟨u1.trans he.symm, by rw [he, v1]; unfold dm_fk; decide, by rw [u3]; exact hs, by rw [v3, u3]⟩⟩) (fun hc => absurd hc (by decide))
  obtain ⟨p1, p2⟩ := dw_evn p0 ⟨(fA1 57 6 (decide_eq_false (by omega))).1.trans hon.1, (fS1 83 40 (decide_eq_false (by omega))).1.trans hon.2⟩ hna2 (dm_sx_a hs (by rw [he]; decide))
  obtain ⟨n1, n2⟩ := dw_ps (A := A) (nf := nf) (k := 8) (p := Int32.ofNat q) (s := s) (num := 0)
  rw [if_neg (by decide)] at n1
  rw [if_neg (by decide)] at n2
  have kA : dw_c 61 6 [some (.ref 57), none, none] A0 (de_nx (de_ps A nf 8 (Int32.ofNat q) s 0) (Int32.ofNat (q + 1)) s) := by
    intro L xs d K k
    refine cx_61_0 ?_
    rintro _ rfl
    rw [h7, show Int32.ofNat st + 1 = Int32.ofNat (st + 1) from cp_ad (b := 1), ← hA]
    intro S2 h2
    rw [h2]
    intro x3 h3
    rw [h3, h10]
    refine dm_8 hn (cp_r1 ?_)
    rw [he]
    refine ⟨fun hc => absurd hc (by decide), fun _ => ⟨fun hc => absurd hc (by decide), fun _ => ⟨fun hc => absurd hc (by decide), fun _ => ⟨fun hc => absurd hc (by decide), fun _ => ⟨fun hc => absurd hc (by decide), fun _ => ⟨fun hc => absurd hc (by decide), fun _ => ⟨fun hc => absurd hc (by decide), fun _ => ⟨fun _ => ?_, fun hc => absurd (by decide) hc⟩⟩⟩⟩⟩⟩⟩⟩
    refine cx_61_283 _ ?_
    refine dm_8 hn (cp_r1 ?_)
    rw [he]
    intro x4 h4
    rw [h4, h11]
    refine cp_56 h.1.2.2.2.2.2.2.1 (by omega) (cp_r0 ?_)
    refine dm_14 (cp_r1 ?_)
    intro x5 h5
    rw [h5, (fA1 57 11 (decide_eq_false (by omega))).1, h11]
    exact cp_63 (cp_r0 (cx_61_320 _ _ k))
  have kS : dw_c 257 3 [some (.ref 83), some (.int (Int32.ofNat (2400 + q))), some (.int s), none, none, none] S0 (me_ev (me_ws S nf 2 (Int32.ofNat (2400 + q)) s) (Int32.ofNat (2400 + (q + 1))) s) := by
    intro L xs d K k
    refine cx_257_0 _ _ ?_
    rintro _ rfl
    rw [h42, show Int32.ofNat st + 1 = Int32.ofNat (st + 1) from cp_ad (b := 1), ← hS]
    intro S2 h2
    rw [h2]
    refine ⟨cp_in hq (by decide), ?_⟩
    rw [cp_cl (by omega)]
    intro x3 h3
    rw [h3, (dm_nk hnn).1, ← hed.1, he]
    refine ⟨fun hc => absurd hc (by decide), fun _ => ⟨fun hc => absurd hc (by decide), fun _ => ⟨fun hc => absurd hc (by decide), fun _ => ⟨fun hc => absurd hc (by decide), fun _ => ⟨fun hc => absurd hc (by decide), fun _ => ⟨fun hc => absurd hc (by decide), fun _ => ⟨fun hc => absurd hc (by decide), fun _ => ⟨fun hc => absurd hc (by decide), fun _ => ?_⟩⟩⟩⟩⟩⟩⟩⟩
    refine cx_258_0 _ _ _ ⟨fun hc => absurd hc (by decide), fun _ => ⟨fun hc => absurd hc (by decide), fun _ => ⟨fun _ => ?_, fun hc => absurd (by decide) hc⟩⟩⟩
    refine cp_253 h.1.2.2.2.2.2.2.2.1 (by omega) (cp_r0 ?_)
    refine ⟨cp_in hq (by decide), ?_⟩
    rw [cp_cl (by omega)]
    intro x4 h4
    rw [h4, (fS1 94 (2400 + q) (decide_eq_false (by omega))).1, hnn.2.2.1, hpa]
    refine cp_254 (cp_r0 ?_)
    try dsimp only [cm_sh]
    exact cp_r0 k
  refine ⟨_, _, kA, kS, cf_tr (cf_mono fA1 (fun b j h => decide_eq_true (by have h := of_decide_eq_true h; omega))) (cf_mono dw_nx_cf (fun b j h => decide_eq_true (by have h := of_decide_eq_true h; omega))), cf_tr (cf_mono fS1 (fun b j h => decide_eq_true (by have h := of_decide_eq_true h; omega))) (cf_mono dw_ev_cf (fun b j h => decide_eq_true (by have h := of_decide_eq_true h; omega))), G, nc, ne, nf + 1, nv, p1, dw_ct_cf (A := de_ps A nf 8 (Int32.ofNat q) s 0) (fun i2 _ => (dw_nx_cf 73 i2 (decide_eq_false (by omega))).1) ?_, p2⟩
  unfold dw_ct
  rw [n1, n2]
  exact ⟨by omega, by omega, by omega, by omega, by omega⟩
theorem dw_e9 (hE : dw_E A0 S0 A S V G nc ne nf nv st lim wc sh dd g q e a b c t2 s) (he : e.1 = 9) : dw_Q A0 S0 A S V nc ne nf nv st lim wc sh dd q s := by
  obtain ⟨hA, hS, h7, h42, h10, h11, h, hon, hn, hs, hnc, hne, hnf, hnv⟩ := hE
  obtain ⟨f, x, y, z, pa, pb, pc, rfl, hnn, hed, ha, hb, hc⟩ := dm_n_nd hn
  have hq : 2400 + q < 8192 := hnn.1
  have la : ¬ a = .leaf := fun hl => absurd ((ct_wf_nd hn.2.2.2.1.1).2.1.mp hl) (by rw [(ct_ar_of (k := e.1)).1 (by rw [he]; decide)]; omega)
  obtain ⟨hpa, hna⟩ := ha la
  obtain ⟨u1, u2, u3, u4, u5⟩ := de_ps_at (A := A) (nf := nf) (k := 9) (p := Int32.ofNat q) (s := s) (num := 0)
  obtain ⟨v1, v2, v3, v4⟩ := me_ws_at (S := S) (nf := nf) (k := 3) (p := Int32.ofNat (2400 + q)) (s := s)
  have fA1 : cf_W (fun b j => decide (73 ≤ b ∧ b ≤ 76 ∧ j = nf ∨ b = 72 ∧ j = 4)) A (de_ps A nf 9 (Int32.ofNat q) s 0) := de_ps_cf
  have fS1 : cf_W (fun b j => decide (125 ≤ b ∧ b ≤ 127 ∧ j = nf ∨ b = 83 ∧ j = 59)) S (me_ws S nf 3 (Int32.ofNat (2400 + q)) s) := me_ws_cf
  have hn2 := dm_n_cf fA1 (fun b j q1 q2 => decide_eq_false (by omega)) fS1 (fun b x q1 q2 q3 q4 => decide_eq_false (by omega)) hn
  have hna2 := dm_n_cf fA1 (fun b j q1 q2 => decide_eq_false (by omega)) fS1 (fun b x q1 q2 q3 q4 => decide_eq_false (by omega)) hna
  have p0 := dm_P_ps (k := 9) (p := Int32.ofNat q) (s := s) (k2 := 3) (p2 := Int32.ofNat (2400 + q)) (s2 := s) (num := 0) h (Or.inr ⟨g, q, e, a, b, c, _, u2, hn2, v2, Or.inl ⟨u1.trans he.symm, by rw [he, v1]; unfold dm_fk; decide, by rw [u3]; exact hs, by rw [v3, u3]⟩⟩) (fun hc => absurd hc (by decide))
  obtain ⟨p1, p2⟩ := dw_evn p0 ⟨(fA1 57 6 (decide_eq_false (by omega))).1.trans hon.1, (fS1 83 40 (decide_eq_false (by omega))).1.trans hon.2⟩ hna2 (dm_sx_a hs (by rw [he]; decide))
  obtain ⟨n1, n2⟩ := dw_ps (A := A) (nf := nf) (k := 9) (p := Int32.ofNat q) (s := s) (num := 0)
  rw [if_neg (by decide)] at n1
  rw [if_pos rfl] at n2
  have kA : dw_c 61 6 [some (.ref 57), none, none] A0 (de_nx (de_ps A nf 9 (Int32.ofNat q) s 0) (Int32.ofNat (q + 1)) s) := by
    intro L xs d K k
    refine cx_61_0 ?_
    rintro _ rfl
    rw [h7, show Int32.ofNat st + 1 = Int32.ofNat (st + 1) from cp_ad (b := 1), ← hA]
    intro S2 h2
    rw [h2]
    intro x3 h3
    rw [h3, h10]
    refine dm_8 hn (cp_r1 ?_)
    rw [he]
    refine ⟨fun hc => absurd hc (by decide), fun _ => ⟨fun hc => absurd hc (by decide), fun _ => ⟨fun hc => absurd hc (by decide), fun _ => ⟨fun hc => absurd hc (by decide), fun _ => ⟨fun hc => absurd hc (by decide), fun _ => ⟨fun hc => absurd hc (by decide), fun _ => ⟨fun hc => absurd hc (by decide), fun _ => ⟨fun hc => absurd hc (by decide), fun _ => ⟨fun _ => ?_, fun hc => absurd (by decide) hc⟩⟩⟩⟩⟩⟩⟩⟩⟩
    refine cx_61_283 _ ?_
    refine dm_8 hn (cp_r1 ?_)
    rw [he]
    intro x4 h4
    rw [h4, h11]
    refine cp_56 h.1.2.2.2.2.2.2.1 (by omega) (cp_r0 ?_)
    refine dm_14 (cp_r1 ?_)
    intro x5 h5
    rw [h5, (fA1 57 11 (decide_eq_false (by omega))).1, h11]
    exact cp_63 (cp_r0 (cx_61_320 _ _ k))
  have kS : dw_c 257 3 [some (.ref 83), some (.int (Int32.ofNat (2400 + q))), some (.int s), none, none, none] S0 (me_ev (me_ws S nf 3 (Int32.ofNat (2400 + q)) s) (Int32.ofNat (2400 + (q + 1))) s) := by
    intro L xs d K k
    refine cx_257_0 _ _ ?_
    rintro _ rfl
    rw [h42, show Int32.ofNat st + 1 = Int32.ofNat (st + 1) from cp_ad (b := 1), ← hS]
    intro S2 h2
    rw [h2]
    refine ⟨cp_in hq (by decide), ?_⟩
    rw [cp_cl (by omega)]
    intro x3 h3
    rw [h3, (dm_nk hnn).1, ← hed.1, he]
    refine ⟨fun hc => absurd hc (by decide), fun _ => ⟨fun hc => absurd hc (by decide), fun _ => ⟨fun hc => absurd hc (by decide), fun _ => ⟨fun hc => absurd hc (by decide), fun _ => ⟨fun hc => absurd hc (by decide), fun _ => ⟨fun hc => absurd hc (by decide), fun _ => ⟨fun hc => absurd hc (by decide), fun _ => ⟨fun hc => absurd hc (by decide), fun _ => ?_⟩⟩⟩⟩⟩⟩⟩⟩
    refine cx_258_0 _ _ _ ⟨fun hc => absurd hc (by decide), fun _ => ⟨fun hc => absurd hc (by decide), fun _ => ⟨fun hc => absurd hc (by decide), fun _ => ⟨fun _ => ?_, fun hc => absurd (by decide) hc⟩⟩⟩⟩
    refine cp_253 h.1.2.2.2.2.2.2.2.1 (by omega) (cp_r0 ?_)
    refine ⟨cp_in hq (by decide), ?_⟩
    rw [cp_cl (by omega)]
    intro x4 h4
    rw [h4, (fS1 94 (2400 + q) (decide_eq_false (by omega))).1, hnn.2.2.1, hpa]
    refine cp_254 (cp_r0 ?_)
    try dsimp only [cm_sh]
    exact cp_r0 k
  refine ⟨_, _, kA, kS, cf_tr (cf_mono fA1 (fun b j h => decide_eq_true (by have h := of_decide_eq_true h; omega))) (cf_mono dw_nx_cf (fun b j h => decide_eq_true (by have h := of_decide_eq_true h; omega))), cf_tr (cf_mono fS1 (fun b j h => decide_eq_true (by have h := of_decide_eq_true h; omega))) (cf_mono dw_ev_cf (fun b j h => decide_eq_true (by have h := of_decide_eq_true h; omega))), G, nc, ne, nf + 1, nv, p1, dw_ct_cf (A := de_ps A nf 9 (Int32.ofNat q) s 0) (fun i2 _ => (dw_nx_cf 73 i2 (decide_eq_false (by omega))).1) ?_, p2⟩
  unfold dw_ct
  rw [n1, n2]
  exact ⟨by omega, by omega, by omega, by omega, by omega⟩
theorem dw_e12 (hE : dw_E A0 S0 A S V G nc ne nf nv st lim wc sh dd g q e a b c t2 s) (he : e.1 = 12) : dw_Q A0 S0 A S V nc ne nf nv st lim wc sh dd q s := by
  obtain ⟨hA, hS, h7, h42, h10, h11, h, hon, hn, hs, hnc, hne, hnf, hnv⟩ := hE
  obtain ⟨f, x, y, z, pa, pb, pc, rfl, hnn, hed, ha, hb, hc⟩ := dm_n_nd hn
  have hq : 2400 + q < 8192 := hnn.1
  have la : ¬ a = .leaf := fun hl => absurd ((ct_wf_nd hn.2.2.2.1.1).2.1.mp hl) (by rw [(ct_ar_of (k := e.1)).2.1 (by rw [he]; decide)]; omega)
  obtain ⟨hpa, hna⟩ := ha la
  obtain ⟨u1, u2, u3, u4, u5⟩ := de_ps_at (A := A) (nf := nf) (k := 12) (p := Int32.ofNat q) (s := s) (num := 0)
  obtain ⟨v1, v2, v3, v4⟩ := me_ws_at (S := S) (nf := nf) (k := 5) (p := Int32.ofNat (2400 + q)) (s := s)
  have fA1 : cf_W (fun b j => decide (73 ≤ b ∧ b ≤ 76 ∧ j = nf ∨ b = 72 ∧ j = 4)) A (de_ps A nf 12 (Int32.ofNat q) s 0) := de_ps_cf
  have fS1 : cf_W (fun b j => decide (125 ≤ b ∧ b ≤ 127 ∧ j = nf ∨ b = 83 ∧ j = 59)) S (me_ws S nf 5 (Int32.ofNat (2400 + q)) s) := me_ws_cf
  have hn2 := dm_n_cf fA1 (fun b j q1 q2 => decide_eq_false (by omega)) fS1 (fun b x q1 q2 q3 q4 => decide_eq_false (by omega)) hn
  have hna2 := dm_n_cf fA1 (fun b j q1 q2 => decide_eq_false (by omega)) fS1 (fun b x q1 q2 q3 q4 => decide_eq_false (by omega)) hna
  have p0 := dm_P_ps (k := 12) (p := Int32.ofNat q) (s := s) (k2 := 5) (p2 := Int32.ofNat (2400 + q)) (s2 := s) (num := 0) h (Or.inr ⟨g, q, e, a, b, c, _, u2, hn2, v2, Or.inl ⟨u1.trans he.symm, by rw [he, v1]; unfold dm_fk; decide, by rw [u3]; exact hs, by rw [v3, u3]⟩⟩) (fun hc => absurd hc (by decide))
  obtain ⟨p1, p2⟩ := dw_evn p0 ⟨(fA1 57 6 (decide_eq_false (by omega))).1.trans hon.1, (fS1 83 40 (decide_eq_false (by omega))).1.trans hon.2⟩ hna2 (dm_sx_a hs (by rw [he]; decide))
  obtain ⟨n1, n2⟩ := dw_ps (A := A) (nf := nf) (k := 12) (p := Int32.ofNat q) (s := s) (num := 0)
  rw [if_neg (by decide)] at n1
  rw [if_neg (by decide)] at n2
  have kA : dw_c 61 6 [some (.ref 57), none, none] A0 (de_nx (de_ps A nf 12 (Int32.ofNat q) s 0) (Int32.ofNat (q + 1)) s) := by
    intro L xs d K k
    refine cx_61_0 ?_
    rintro _ rfl
    rw [h7, show Int32.ofNat st + 1 = Int32.ofNat (st + 1) from cp_ad (b := 1), ← hA]
    intro S2 h2
    rw [h2]
    intro x3 h3
    rw [h3, h10]
    refine dm_8 hn (cp_r1 ?_)
    rw [he]
    refine ⟨fun hc => absurd hc (by decide), fun _ => ⟨fun hc => absurd hc (by decide), fun _ => ⟨fun hc => absurd hc (by decide), fun _ => ⟨fun hc => absurd hc (by decide), fun _ => ⟨fun hc => absurd hc (by decide), fun _ => ⟨fun hc => absurd hc (by decide), fun _ => ⟨fun hc => absurd hc (by decide), fun _ => ⟨fun hc => absurd hc (by decide), fun _ => ⟨fun hc => absurd hc (by decide), fun _ => ⟨fun hc => absurd hc (by decide), fun _ => ⟨fun hc => absurd hc (by decide), fun _ => ⟨fun _ => ?_, fun hc => absurd (by decide) hc⟩⟩⟩⟩⟩⟩⟩⟩⟩⟩⟩⟩
    refine cx_61_283 _ ?_
    refine dm_8 hn (cp_r1 ?_)
    rw [he]
    intro x4 h4
    rw [h4, h11]
    refine cp_56 h.1.2.2.2.2.2.2.1 (by omega) (cp_r0 ?_)
    refine dm_14 (cp_r1 ?_)
    intro x5 h5
    rw [h5, (fA1 57 11 (decide_eq_false (by omega))).1, h11]
    exact cp_63 (cp_r0 (cx_61_320 _ _ k))
  have kS : dw_c 257 3 [some (.ref 83), some (.int (Int32.ofNat (2400 + q))), some (.int s), none, none, none] S0 (me_ev (me_ws S nf 5 (Int32.ofNat (2400 + q)) s) (Int32.ofNat (2400 + (q + 1))) s) := by
    intro L xs d K k
    refine cx_257_0 _ _ ?_
    rintro _ rfl
    rw [h42, show Int32.ofNat st + 1 = Int32.ofNat (st + 1) from cp_ad (b := 1), ← hS]
    intro S2 h2
    rw [h2]
    refine ⟨cp_in hq (by decide), ?_⟩
    rw [cp_cl (by omega)]
    intro x3 h3
    rw [h3, (dm_nk hnn).1, ← hed.1, he]
    refine ⟨fun hc => absurd hc (by decide), fun _ => ⟨fun hc => absurd hc (by decide), fun _ => ⟨fun hc => absurd hc (by decide), fun _ => ⟨fun hc => absurd hc (by decide), fun _ => ⟨fun hc => absurd hc (by decide), fun _ => ⟨fun hc => absurd hc (by decide), fun _ => ⟨fun hc => absurd hc (by decide), fun _ => ⟨fun hc => absurd hc (by decide), fun _ => ?_⟩⟩⟩⟩⟩⟩⟩⟩
    refine cx_258_0 _ _ _ ⟨fun hc => absurd hc (by decide), fun _ => ⟨fun hc => absurd hc (by decide), fun _ => ⟨fun hc => absurd hc (by decide), fun _ => ⟨fun hc => absurd hc (by decide), fun _ => ⟨fun _ => ?_, fun hc => absurd (by decide) hc⟩⟩⟩⟩⟩
    refine cp_253 h.1.2.2.2.2.2.2.2.1 (by omega) (cp_r0 ?_)
    refine ⟨cp_in hq (by decide), ?_⟩
    rw [cp_cl (by omega)]
    intro x4 h4
    rw [h4, (fS1 94 (2400 + q) (decide_eq_false (by omega))).1, hnn.2.2.1, hpa]
    refine cp_254 (cp_r0 ?_)
    try dsimp only [cm_sh]
    exact cp_r0 k
  refine ⟨_, _, kA, kS, cf_tr (cf_mono fA1 (fun b j h => decide_eq_true (by have h := of_decide_eq_true h; omega))) (cf_mono dw_nx_cf (fun b j h => decide_eq_true (by have h := of_decide_eq_true h; omega))), cf_tr (cf_mono fS1 (fun b j h => decide_eq_true (by have h := of_decide_eq_true h; omega))) (cf_mono dw_ev_cf (fun b j h => decide_eq_true (by have h := of_decide_eq_true h; omega))), G, nc, ne, nf + 1, nv, p1, dw_ct_cf (A := de_ps A nf 12 (Int32.ofNat q) s 0) (fun i2 _ => (dw_nx_cf 73 i2 (decide_eq_false (by omega))).1) ?_, p2⟩
  unfold dw_ct
  rw [n1, n2]
  exact ⟨by omega, by omega, by omega, by omega, by omega⟩
theorem dw_e13 (hE : dw_E A0 S0 A S V G nc ne nf nv st lim wc sh dd g q e a b c t2 s) (he : e.1 = 13) : dw_Q A0 S0 A S V nc ne nf nv st lim wc sh dd q s := by
  obtain ⟨hA, hS, h7, h42, h10, h11, h, hon, hn, hs, hnc, hne, hnf, hnv⟩ := hE
  obtain ⟨f, x, y, z, pa, pb, pc, rfl, hnn, hed, ha, hb, hc⟩ := dm_n_nd hn
  have hq : 2400 + q < 8192 := hnn.1
  have la : ¬ a = .leaf := fun hl => absurd ((ct_wf_nd hn.2.2.2.1.1).2.1.mp hl) (by rw [(ct_ar_of (k := e.1)).2.1 (by rw [he]; decide)]; omega)
  obtain ⟨hpa, hna⟩ := ha la
  obtain ⟨u1, u2, u3, u4, u5⟩ := de_ps_at (A := A) (nf := nf) (k := 13) (p := Int32.ofNat q) (s := s) (num := 0)
  obtain ⟨v1, v2, v3, v4⟩ := me_ws_at (S := S) (nf := nf) (k := 6) (p := Int32.ofNat (2400 + q)) (s := s)
  have fA1 : cf_W (fun b j => decide (73 ≤ b ∧ b ≤ 76 ∧ j = nf ∨ b = 72 ∧ j = 4)) A (de_ps A nf 13 (Int32.ofNat q) s 0) := de_ps_cf
  have fS1 : cf_W (fun b j => decide (125 ≤ b ∧ b ≤ 127 ∧ j = nf ∨ b = 83 ∧ j = 59)) S (me_ws S nf 6 (Int32.ofNat (2400 + q)) s) := me_ws_cf
  have hn2 := dm_n_cf fA1 (fun b j q1 q2 => decide_eq_false (by omega)) fS1 (fun b x q1 q2 q3 q4 => decide_eq_false (by omega)) hn
  have hna2 := dm_n_cf fA1 (fun b j q1 q2 => decide_eq_false (by omega)) fS1 (fun b x q1 q2 q3 q4 => decide_eq_false (by omega)) hna
  have p0 := dm_P_ps (k := 13) (p := Int32.ofNat q) (s := s) (k2 := 6) (p2 := Int32.ofNat (2400 + q)) (s2 := s) (num := 0) h (Or.inr ⟨g, q, e, a, b, c, _, u2, hn2, v2, Or.inl ⟨u1.trans he.symm, by rw [he, v1]; unfold dm_fk; decide, by rw [u3]; exact hs, by rw [v3, u3]⟩⟩) (fun hc => absurd hc (by decide))
  obtain ⟨p1, p2⟩ := dw_evn p0 ⟨(fA1 57 6 (decide_eq_false (by omega))).1.trans hon.1, (fS1 83 40 (decide_eq_false (by omega))).1.trans hon.2⟩ hna2 (dm_sx_a hs (by rw [he]; decide))
  obtain ⟨n1, n2⟩ := dw_ps (A := A) (nf := nf) (k := 13) (p := Int32.ofNat q) (s := s) (num := 0)
  rw [if_neg (by decide)] at n1
  rw [if_neg (by decide)] at n2
  have kA : dw_c 61 6 [some (.ref 57), none, none] A0 (de_nx (de_ps A nf 13 (Int32.ofNat q) s 0) (Int32.ofNat (q + 1)) s) := by
    intro L xs d K k
    refine cx_61_0 ?_
    rintro _ rfl
    rw [h7, show Int32.ofNat st + 1 = Int32.ofNat (st + 1) from cp_ad (b := 1), ← hA]
    intro S2 h2
    rw [h2]
    intro x3 h3
    rw [h3, h10]
    refine dm_8 hn (cp_r1 ?_)
    rw [he]
    refine ⟨fun hc => absurd hc (by decide), fun _ => ⟨fun hc => absurd hc (by decide), fun _ => ⟨fun hc => absurd hc (by decide), fun _ => ⟨fun hc => absurd hc (by decide), fun _ => ⟨fun hc => absurd hc (by decide), fun _ => ⟨fun hc => absurd hc (by decide), fun _ => ⟨fun hc => absurd hc (by decide), fun _ => ⟨fun hc => absurd hc (by decide), fun _ => ⟨fun hc => absurd hc (by decide), fun _ => ⟨fun hc => absurd hc (by decide), fun _ => ⟨fun hc => absurd hc (by decide), fun _ => ⟨fun hc => absurd hc (by decide), fun _ => ⟨fun _ => ?_, fun hc => absurd (by decide) hc⟩⟩⟩⟩⟩⟩⟩⟩⟩⟩⟩⟩⟩
    refine cx_61_283 _ ?_
    refine dm_8 hn (cp_r1 ?_)
    rw [he]
    intro x4 h4
    rw [h4, h11]
    refine cp_56 h.1.2.2.2.2.2.2.1 (by omega) (cp_r0 ?_)
    refine dm_14 (cp_r1 ?_)
    intro x5 h5
    rw [h5, (fA1 57 11 (decide_eq_false (by omega))).1, h11]
    exact cp_63 (cp_r0 (cx_61_320 _ _ k))
  have kS : dw_c 257 3 [some (.ref 83), some (.int (Int32.ofNat (2400 + q))), some (.int s), none, none, none] S0 (me_ev (me_ws S nf 6 (Int32.ofNat (2400 + q)) s) (Int32.ofNat (2400 + (q + 1))) s) := by
    intro L xs d K k
    refine cx_257_0 _ _ ?_
    rintro _ rfl
    rw [h42, show Int32.ofNat st + 1 = Int32.ofNat (st + 1) from cp_ad (b := 1), ← hS]
    intro S2 h2
    rw [h2]
    refine ⟨cp_in hq (by decide), ?_⟩
    rw [cp_cl (by omega)]
    intro x3 h3
    rw [h3, (dm_nk hnn).1, ← hed.1, he]
    refine ⟨fun hc => absurd hc (by decide), fun _ => ⟨fun hc => absurd hc (by decide), fun _ => ⟨fun hc => absurd hc (by decide), fun _ => ⟨fun hc => absurd hc (by decide), fun _ => ⟨fun hc => absurd hc (by decide), fun _ => ⟨fun hc => absurd hc (by decide), fun _ => ⟨fun hc => absurd hc (by decide), fun _ => ⟨fun hc => absurd hc (by decide), fun _ => ?_⟩⟩⟩⟩⟩⟩⟩⟩
    refine cx_258_0 _ _ _ ⟨fun hc => absurd hc (by decide), fun _ => ⟨fun hc => absurd hc (by decide), fun _ => ⟨fun hc => absurd hc (by decide), fun _ => ⟨fun hc => absurd hc (by decide), fun _ => ⟨fun hc => absurd hc (by decide), fun _ => ?_⟩⟩⟩⟩⟩
    refine cp_253 h.1.2.2.2.2.2.2.2.1 (by omega) (cp_r0 ?_)
    refine ⟨cp_in hq (by decide), ?_⟩
    rw [cp_cl (by omega)]
    intro x4 h4
    rw [h4, (fS1 94 (2400 + q) (decide_eq_false (by omega))).1, hnn.2.2.1, hpa]
    refine cp_254 (cp_r0 ?_)
    try dsimp only [cm_sh]
    exact cp_r0 k
  refine ⟨_, _, kA, kS, cf_tr (cf_mono fA1 (fun b j h => decide_eq_true (by have h := of_decide_eq_true h; omega))) (cf_mono dw_nx_cf (fun b j h => decide_eq_true (by have h := of_decide_eq_true h; omega))), cf_tr (cf_mono fS1 (fun b j h => decide_eq_true (by have h := of_decide_eq_true h; omega))) (cf_mono dw_ev_cf (fun b j h => decide_eq_true (by have h := of_decide_eq_true h; omega))), G, nc, ne, nf + 1, nv, p1, dw_ct_cf (A := de_ps A nf 13 (Int32.ofNat q) s 0) (fun i2 _ => (dw_nx_cf 73 i2 (decide_eq_false (by omega))).1) ?_, p2⟩
  unfold dw_ct
  rw [n1, n2]
  exact ⟨by omega, by omega, by omega, by omega, by omega⟩
end DMa25
