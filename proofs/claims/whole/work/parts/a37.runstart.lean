/-! ## a37 what holds as a run begins -/
/-- the class's state as its loop begins -/
def dw_as (dd lim : Nat) (B : cm_S) : cm_S := cm_wI (cm_wI (de_nx (de_ps (cm_wI B 65 dd (-2)) 0 (-1) (Int32.ofNat dd) 0 0) (Int32.ofNat (150 * dd)) (-1)) 57 8 (Int32.ofNat lim)) 57 6 (-2)
/-- the model's -/
def dw_ss (W : Nat → ct_T) (dd lim : Nat) (T : cm_S) : cm_S := cm_wI (cm_wI (dw_bs W dd T) 83 43 (Int32.ofNat lim)) 83 40 (-1)
theorem dw_wf {W : Nat → ct_T} (hds : ct_ds W) : ∀ i, i < 8 → ct_wf (W i) ∧ ct_sz (W i) ≤ 150 := fun i hi => by
  by_cases hl : W i = .leaf
  · rw [hl]; exact ⟨trivial, by rw [ct_sz_lf]; omega⟩
  · obtain ⟨hco, _⟩ := hds i hi hl
    exact ⟨hco.1, hco.2.2.2.2.2.2.2⟩
theorem dw_bi {W : Nat → ct_T} (hds : ct_ds W) : ∀ g, g < 8 → ct_bi (dm_R W g) := fun g hg => by
  by_cases hl : W g = .leaf
  · have hn : ∀ x y, ¬ dm_R W g x y := fun x y h => by
      have h2 := h.2
      rw [hl] at h2
      cases h2
    exact ⟨fun x y z h => absurd h (hn x y), fun x y z h => absurd h (hn x z)⟩
  · obtain ⟨hco, _⟩ := hds g hg hl
    have hlen := ct_co_len hco
    exact (ct_fr_er hco (n := 0) (B := ct_bl (ct_fl (W g))) (fun x => Iff.rfl) (by omega)).1
theorem dw_root_n {W : Nat → ct_T} {B T : cm_S} {m : Nat} (hds : ct_ds W) (hm : m < 8) (hl : ¬ W m = .leaf) (hB : ck_t B 58 (150 * m) (W m)) (hT : cl_t T (ct_pre (W m)) (Int32.ofNat (2400 + 150 * m)) (List.range' (2400 + 150 * m) (ct_sz (W m)))) {G : dm_Gs} {ne : Nat} : dm_n B T W m (150 * m) (W m) (ct_pre (W m)) ∧ dm_sx G ne m (W m) (-1) := by
  obtain ⟨hco, _⟩ := hds m hm hl
  obtain ⟨p1, _, _⟩ := ct_pre_co hco
  have hlen := ct_co_len hco
  have hz := hco.2.2.2.2.2.2.2
  exact ⟨⟨hm, Nat.le_refl _, by omega, ⟨hco.1, hco.2.2.1, hco.2.2.2.2.2.2.1⟩, ⟨p1.1, p1.2.2.1, p1.2.2.2.2.2.2.1⟩, hl, hB, hT, (ct_fr_er hco (n := 0) (B := ct_bl (ct_fl (W m))) (fun x => Iff.rfl) (by omega)).2.1⟩, Or.inl rfl, hco.1, ct_lx_mono _ hco.1 _ _ (fun _ h => h.elim) hco.2.2.2.2.2.1⟩
theorem dw_start {W : Nat → ct_T} {B T : cm_S} {dd lim : Nat} (hds : ct_ds W) (hdd : dd < 8) (hne : ¬ W dd = .leaf) (hb : dw_bA W dd B) (ht : dw_bS W T) : dw_RN (dw_as dd lim B) (dw_ss W dd lim T) W 0 lim 0 0 dd 1 := by
  obtain ⟨b1, b2, b3, b4, b5, b6, b7, b8, b9, b10⟩ := hb
  obtain ⟨t1, t2, t3, t4, t5, t6, t7, t8, t9, t10, t11, t12⟩ := ht
  have hmd : dm_mc dd = dd := by unfold dm_mc; rw [if_pos (by omega)]
  have hM : dm_M B T W (fun _ => (0, fun _ => False)) 9 0 0 0 := by
    refine ⟨dw_bi hds, Nat.le_refl _, b2, t3, b3, t4, b6, t6, t5, fun s hs => absurd hs (Nat.not_lt_zero s), fun m hm hm8 => ?_, fun i hi => absurd hi (Nat.not_lt_zero i)⟩
    have hmm : dm_mc m = m := by unfold dm_mc; rw [if_pos (by omega)]
    obtain ⟨g1, g2⟩ := b4 m (by omega)
    obtain ⟨s1, s2, s3, s4, s5⟩ := t12 m (by omega)
    unfold dm_cl
    rw [hmm]
    by_cases hl : W m = .leaf
    · exact Or.inl ⟨g1 hl, by omega, s1 hl, s4, s5⟩
    · obtain ⟨g3, g4, g5, g6⟩ := g2 hl
      obtain ⟨s6, s7⟩ := s2 hl
      obtain ⟨r1, r2⟩ := dw_root_n (G := fun _ => (0, fun _ => False)) (ne := 0) hds (by omega) hl g6 s7
      exact Or.inr (Or.inl ⟨g3, ⟨m, 150 * m, W m, ct_pre (W m), g4, r1, s6, by rw [g5]; exact r2⟩, by rw [s3, g5], s4, s5⟩)
  obtain ⟨g3, g4, g5, g6⟩ := (b4 dd hdd).2 hne
  obtain ⟨s1, s2, s3, s4, s5⟩ := t12 dd hdd
  obtain ⟨s6, s7⟩ := s2 hne
  obtain ⟨r1, r2⟩ := dw_root_n (G := fun _ => (0, fun _ => False)) (ne := 0) hds hdd hne g6 s7
  have fA1 : cf_W (fun b j => decide (65 ≤ b ∧ b ≤ 68 ∧ j = dd)) B (cm_wI B 65 dd (-2)) := cf_wI (decide_eq_true (by omega))
  have fS1 : cf_W (fun b j => decide (115 ≤ b ∧ b ≤ 117 ∧ j = dm_mc dd)) T (cm_wI T 117 dd 1) := cf_wI (decide_eq_true (by omega))
  have h114 : ∀ j, (cm_wI T 117 dd 1).1 114 j = T.1 114 j := fun j => by rw [cp_wI1, if_neg (by omega)]
  have hnn : ¬ T.1 114 dd = -1 := by rw [s6]; exact cp_m1 (by omega)
  have hM1 := dm_M_1 fA1 fS1 (by omega) (by omega) (Or.inr (Or.inr (Or.inl ⟨by rw [cp_wI1, if_pos ⟨rfl, rfl⟩], by rw [hmd, cp_wI1, if_neg (by omega)]; exact s4, by rw [hmd, cp_wI1, if_pos ⟨rfl, rfl⟩], fun _ => by rw [h114, hmd]; exact hnn⟩))) hM
  obtain ⟨u1, u2, u3, u4, u5⟩ := de_ps_at (A := cm_wI B 65 dd (-2)) (nf := 0) (k := -1) (p := Int32.ofNat dd) (s := 0) (num := 0)
  obtain ⟨v1, v2, v3, v4⟩ := me_ws_at (S := cm_wI T 117 dd 1) (nf := 0) (k := 0) (p := Int32.ofNat dd) (s := -1)
  have hM2 := dm_M_ps (k := -1) (p := Int32.ofNat dd) (s := 0) (k2 := 0) (p2 := Int32.ofNat dd) (s2 := -1) (num := 0) hM1 (Or.inl ⟨u1, v1, dd, by omega, by omega, u2, by rw [hmd]; exact v2, fun _ => by rw [(me_ws_cf 114 (dm_mc dd) (decide_eq_false (by omega))).1, h114, hmd]; exact hnn⟩)
  have fA2 := de_ps_cf (A := cm_wI B 65 dd (-2)) (nf := 0) (k := -1) (p := Int32.ofNat dd) (s := 0) (num := 0)
  have fS2 := me_ws_cf (S := cm_wI T 117 dd 1) (nf := 0) (k := 0) (p := Int32.ofNat dd) (s := -1)
  have fA3 : cf_W (fun b j => decide (b = 57 ∧ (j = 6 ∨ 8 ≤ j))) (de_ps (cm_wI B 65 dd (-2)) 0 (-1) (Int32.ofNat dd) 0 0) (dw_as dd lim B) := cf_tr (cf_mono dw_nx_cf (fun b j h => decide_eq_true (by have h := of_decide_eq_true h; omega))) (cf_tr (cf_wI (decide_eq_true (by omega))) (cf_wI (decide_eq_true (by omega))))
  have fS3 : cf_W (fun b j => decide (b = 83 ∧ (j = 40 ∨ j = 43 ∨ j = 63 ∨ j = 64 ∨ j = 65))) (me_ws (cm_wI T 117 dd 1) 0 0 (Int32.ofNat dd) (-1)) (dw_ss W dd lim T) := cf_tr (cf_mono dw_ev_cf (fun b j h => decide_eq_true (by have h := of_decide_eq_true h; omega))) (cf_tr (cf_wI (decide_eq_true (by omega))) (cf_wI (decide_eq_true (by omega))))
  have fA : cf_W (fun b j => decide (65 ≤ b ∧ b ≤ 68 ∧ j = dd ∨ 73 ≤ b ∧ b ≤ 76 ∧ j = 0 ∨ b = 72 ∧ j = 4 ∨ b = 57 ∧ (j = 6 ∨ 8 ≤ j))) B (dw_as dd lim B) := cf_tr (cf_mono fA1 (fun b j h => decide_eq_true (by have h := of_decide_eq_true h; omega))) (cf_tr (cf_mono fA2 (fun b j h => decide_eq_true (by have h := of_decide_eq_true h; omega))) (cf_mono fA3 (fun b j h => decide_eq_true (by have h := of_decide_eq_true h; omega))))
  have fS : cf_W (fun b j => decide (115 ≤ b ∧ b ≤ 117 ∧ j = dm_mc dd ∨ 125 ≤ b ∧ b ≤ 127 ∧ j = 0 ∨ b = 83 ∧ (j = 59 ∨ j = 40 ∨ j = 43 ∨ j = 63 ∨ j = 64 ∨ j = 65))) T (dw_ss W dd lim T) := cf_tr (cf_mono fS1 (fun b j h => decide_eq_true (by have h := of_decide_eq_true h; omega))) (cf_tr (cf_mono fS2 (fun b j h => decide_eq_true (by have h := of_decide_eq_true h; omega))) (cf_mono fS3 (fun b j h => decide_eq_true (by have h := of_decide_eq_true h; omega))))
  have hM3 := dm_M_cf fA3 fS3 (fun b j hb => decide_eq_false (by omega)) (fun b j hb => decide_eq_false (by omega)) (decide_eq_false (by omega)) (decide_eq_false (by omega)) (decide_eq_false (by omega)) (decide_eq_false (by omega)) (decide_eq_false (by omega)) (decide_eq_false (by omega)) (decide_eq_false (by omega)) hM2
  have i73 : (dw_as dd lim B).1 73 0 = -1 := (fA3 73 0 (decide_eq_false (by omega))).1.trans u1
  have i74 : (dw_as dd lim B).1 74 0 = Int32.ofNat dd := (fA3 74 0 (decide_eq_false (by omega))).1.trans u2
  have i65 : (dw_as dd lim B).1 65 dd = -2 := by
    rw [(fA3 65 dd (decide_eq_false (by omega))).1, (fA2 65 dd (decide_eq_false (by omega))).1, cp_wI1, if_pos ⟨rfl, rfl⟩]
  have i57 : (dw_as dd lim B).1 57 6 = -2 ∧ (dw_as dd lim B).1 57 8 = Int32.ofNat lim ∧ (dw_as dd lim B).1 57 9 = 1 ∧ (dw_as dd lim B).1 57 10 = Int32.ofNat (150 * dd) ∧ (dw_as dd lim B).1 57 11 = -1 := by
    unfold dw_as de_nx
    refine ⟨?_, ?_, ?_, ?_, ?_⟩ <;> simp [cp_wI1]
  have i83 : (dw_ss W dd lim T).1 83 40 = -1 ∧ (dw_ss W dd lim T).1 83 43 = Int32.ofNat lim ∧ (dw_ss W dd lim T).1 83 63 = Int32.ofNat (2400 + 150 * dd) ∧ (dw_ss W dd lim T).1 83 64 = -1 ∧ (dw_ss W dd lim T).1 83 65 = -1 := by
    unfold dw_ss dw_bs me_ev
    refine ⟨?_, ?_, ?_, ?_, ?_⟩ <;> simp [cp_wI1]
  have hH : dm_H (dw_as dd lim B) (dw_ss W dd lim T) 9 0 lim 0 0 := by
    refine ⟨(fA _ _ (decide_eq_false (by omega))).1.trans b10, (fS _ _ (decide_eq_false (by omega))).1.trans t2, i57.2.1, i83.2.1, (fA _ _ (decide_eq_false (by omega))).1.trans b7, (fS _ _ (decide_eq_false (by omega))).1.trans t8, (fA _ _ (decide_eq_false (by omega))).1.trans b8, (fS _ _ (decide_eq_false (by omega))).1.trans t7, ?_, fun i hi => absurd hi (Nat.not_lt_zero i), fun i hi => ?_⟩
    · rw [(fA 77 3 (decide_eq_false (by omega))).2, (fS 83 71 (decide_eq_false (by omega))).2, b9, t10]
    · rw [(fA 79 i (decide_eq_false (by omega))).1, (fS 128 i (decide_eq_false (by omega))).1, b5 i hi, t11 i hi]
  have hdz : dm_dz (dw_as dd lim B) 9 1 := fun m2 hm2 hm3 hb => by
    by_cases hmd2 : m2 = dd
    · exact ⟨0, by omega, i73, by rw [hmd2]; exact i74⟩
    · rw [(fA 65 m2 (decide_eq_false (by omega))).1] at hb
      obtain ⟨q1, q2⟩ := b4 m2 (by omega)
      by_cases hl : W m2 = .leaf
      · rw [q1 hl] at hb; exact absurd hb (by decide)
      · rw [(q2 hl).1] at hb; exact absurd hb (by decide)
  have hrA : dm_rA (dw_as dd lim B) (dw_ss W dd lim T) dd 1 0 9 := ⟨(fA _ _ (decide_eq_false (by omega))).1.trans b1, hdd, ⟨by rw [i65]; decide, hdz⟩, Or.inl ⟨(fS _ _ (decide_eq_false (by omega))).1.trans t9, rfl, by omega, i73, i74, fun i h1 h2 => by omega⟩⟩
  refine Or.inl ⟨fun _ => (0, fun _ => False), 9, 0, 1, 0, ⟨hM3, hH, hrA⟩, ⟨?_, ?_, ?_, by omega, ?_⟩, Or.inl ⟨⟨i57.1, i83.1⟩, Or.inl ⟨i57.2.2.1, dd, 150 * dd, W dd, ct_pre (W dd), i57.2.2.2.1, dm_n_cf fA (fun b j q1 q2 => decide_eq_false (by omega)) fS (fun b x q1 q2 q3 q4 => decide_eq_false (by omega)) r1, by rw [i57.2.2.2.2]; exact r2, i83.2.2.1, by rw [i83.2.2.2.1, i57.2.2.2.2], i83.2.2.2.2⟩⟩⟩
  · show 9 + (0 + (if (dw_as dd lim B).1 73 0 = -1 then 0 else 1)) ≤ _
    rw [if_pos i73]; omega
  · show 0 + 2 * (0 + (if (dw_as dd lim B).1 73 0 = -1 then 0 else 1)) ≤ _
    rw [if_pos i73]; omega
  · show 0 + (0 + (if (dw_as dd lim B).1 73 0 = -1 then 0 else 1)) ≤ _
    rw [if_pos i73]; omega
  · show 0 + (if (dw_as dd lim B).1 73 0 = 9 then 2 else 1) ≤ _
    rw [if_neg (by rw [i73]; decide)]; omega
