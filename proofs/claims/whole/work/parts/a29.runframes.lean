/-! ## a29 the run machine: cells filled; any frame -/
section DMa29
variable {A0 S0 A S : cm_S} {V : Nat → ct_T} {G : dm_Gs} {nc ne nf nv st lim wc sh dd g q v m j : Nat} {e : ct_D} {a b c t2 : ct_T} {s : Int32}
/-- a cell is filled with the value found -/
theorem dw_up (hA : A = cm_wI A0 72 4 (Int32.ofNat nf)) (hS : S = cm_wI S0 83 59 (Int32.ofNat nf)) (h72 : A0.1 72 4 = Int32.ofNat (nf + 1)) (h59 : S0.1 83 59 = Int32.ofNat (nf + 1)) (hA72 : A.1 72 4 = Int32.ofNat nf) (hS59 : S.1 83 59 = Int32.ofNat nf) (h64 : A.1 64 4 = Int32.ofNat nc) (hnc : nc ≤ 8009) (h9 : 9 ≤ nc) (hnf : nf + 1 < 4064) (hkd : A.1 73 nf = -1) (hp : A.1 74 nf = Int32.ofNat m) (hm : m < nc) (hmk : S.1 125 nf = 0) (hp2 : S.1 126 nf = Int32.ofNat j) (hj : j < 8192) (hgv : S.1 83 65 = Int32.ofNat v) (hv : v < 8192) : dw_c 67 6 [some (.ref 57), none, none, none] A0 (de_fi A m (A.1 65 8) (A.1 66 8) (A.1 67 8) (A.2 68 8)) ∧ dw_c 259 3 [some (.ref 83), none, none, none, none, none, none] S0 (cm_wI (cm_wI S 116 j (Int32.ofNat v)) 117 j 0) := by
  have hsc : A.1 75 nf = A.1 75 nf := rfl
  have hsc2 : S.1 127 nf = S.1 127 nf := rfl
  have kA : dw_c 67 6 [some (.ref 57), none, none, none] A0 (de_fi A m (A.1 65 8) (A.1 66 8) (A.1 67 8) (A.2 68 8)) := by
    intro L xs d K k
    refine cx_67_0 ?_
    rintro _ rfl
    rw [h72, show Int32.ofNat (nf + 1) - 1 = Int32.ofNat nf from cp_sb (b := 1) (by omega), ← hA]
    intro S2 h2
    rw [h2]
    intro x3 h3
    rw [h3, hA72]
    refine cp_166 (by decide) (cp_r1 ?_)
    rw [cp_g_at (by rw [dm_rl.2.2.2.2.2.2.2.2.1]; omega) (by decide +kernel), hp]
    intro x8 h8
    rw [h8, hA72]
    refine cp_166 (by decide) (cp_r1 ?_)
    rw [cp_g_at (by rw [dm_rl.2.2.2.2.2.2.2.2.2.1]; omega) (by decide +kernel), hsc]
    intro x9 h9
    rw [h9, hA72]
    refine cp_166 (by decide) (cp_r1 ?_)
    rw [cp_g_at (by rw [dm_rl.2.2.2.2.2.2.2.1]; omega) (by decide +kernel), hkd]
    refine ⟨fun hc => absurd hc (by decide), fun _ => ⟨fun _ => ?_, fun hc => absurd (by decide) hc⟩⟩
    refine cp_121 (m := 8) (j := m) h64 hnc (by omega) (by omega) (cp_r0 ?_)
    exact k
  have kS : dw_c 259 3 [some (.ref 83), none, none, none, none, none, none] S0 (cm_wI (cm_wI S 116 j (Int32.ofNat v)) 117 j 0) := by
    intro L xs d K k
    refine cx_259_0 ?_
    rintro _ rfl
    rw [h59, show Int32.ofNat (nf + 1) - 1 = Int32.ofNat nf from cp_sb (b := 1) (by omega), ← hS]
    intro S2 h2
    rw [h2]
    intro x3 h3
    rw [h3, hS59]
    refine ⟨cp_in (by omega) (by decide), ?_⟩
    rw [cp_cl (n := nf) (by omega)]
    intro x4 h4
    rw [h4, hmk]
    intro x5 h5
    rw [h5]
    refine ⟨cp_in (by omega) (by decide), ?_⟩
    rw [cp_cl (n := nf) (by omega)]
    intro x6 h6
    rw [h6, hp2, cp_cl (n := j) (by omega)]
    intro x7 h7
    rw [h7]
    refine ⟨cp_in (by omega) (by decide), ?_⟩
    rw [cp_cl (n := nf) (by omega)]
    intro x8 h8
    rw [h8, hsc2]
    intro x9 h9
    rw [h9, hgv, cp_cl (n := v) (by omega)]
    refine ⟨cp_in (by omega) (by decide), ?_⟩
    intro x10 h10
    rw [h10]
    refine ⟨fun _ => ?_, fun hc => absurd (by decide) hc⟩
    refine ⟨cp_in hj (by decide), ?_⟩
    intro S3 h3
    rw [h3]
    refine ⟨cp_in hj (by decide), ?_⟩
    intro S4 h4
    rw [h4]
    exact cx_259_442 _ _ _ _ _ _ k
  exact ⟨kA, kS⟩
/-- what holds of a filled cell -/
theorem dw_upR (h : dm_M A S V G nc ne nf nv) (hnc : nc ≤ 8009) (hvn : v < nv) (hm : m < nc) (hm8 : ¬ m = 8) (h114 : m < 8 → ¬ S.1 114 (dm_mc m) = -1) (h57 : A.1 57 9 = 0) (h63 : S.1 83 63 = -1) (hgv : S.1 83 65 = Int32.ofNat v) (hvl : dm_vl A S V G ne nc (A.1 65 8) (A.1 66 8) (A.1 67 8) (A.2 68 8) v) : cf_W (fun b j => decide (65 ≤ b ∧ b ≤ 68 ∧ j = m)) A (de_fi A m (A.1 65 8) (A.1 66 8) (A.1 67 8) (A.2 68 8)) ∧ cf_W (fun b j => decide (115 ≤ b ∧ b ≤ 117 ∧ j = dm_mc m)) S (cm_wI (cm_wI S 116 (dm_mc m) (Int32.ofNat v)) 117 (dm_mc m) 0) ∧ dm_cl (de_fi A m (A.1 65 8) (A.1 66 8) (A.1 67 8) (A.2 68 8)) (cm_wI (cm_wI S 116 (dm_mc m) (Int32.ofNat v)) 117 (dm_mc m) 0) V G ne nc nv m ∧ dm_mg (de_fi A m (A.1 65 8) (A.1 66 8) (A.1 67 8) (A.2 68 8)) (cm_wI (cm_wI S 116 (dm_mc m) (Int32.ofNat v)) 117 (dm_mc m) 0) V G ne nc nv := by
  have fA : cf_W (fun b j => decide (65 ≤ b ∧ b ≤ 68 ∧ j = m)) A (de_fi A m (A.1 65 8) (A.1 66 8) (A.1 67 8) (A.2 68 8)) := de_fi_cf
  have fS : cf_W (fun b j => decide (115 ≤ b ∧ b ≤ 117 ∧ j = dm_mc m)) S (cm_wI (cm_wI S 116 (dm_mc m) (Int32.ofNat v)) 117 (dm_mc m) 0) := cf_tr (cf_wI (decide_eq_true (by omega))) (cf_wI (decide_eq_true (by omega)))
  obtain ⟨u1, u2, u3, u4⟩ := de_fi_at (A := A) (i := m) (st := A.1 65 8) (f := A.1 66 8) (s := A.1 67 8) (num := A.2 68 8)
  have hv2 := dm_vl_c2 (nf := 0) (n0 := 0) fA fS (fun b j hb => decide_eq_false (by omega)) (fun b j hb => decide_eq_false (by omega)) (fun _ _ => rfl) (Nat.le_refl ne) (Nat.le_refl nc) hvn hvl
  have e8 : ∀ b, 65 ≤ b → b ≤ 68 → (de_fi A m (A.1 65 8) (A.1 66 8) (A.1 67 8) (A.2 68 8)).1 b 8 = A.1 b 8 ∧ (de_fi A m (A.1 65 8) (A.1 66 8) (A.1 67 8) (A.2 68 8)).2 b 8 = A.2 b 8 := fun b h1 h2 => fA b 8 (decide_eq_false (by omega))
  refine ⟨fA, fS, Or.inr (Or.inr (Or.inr ⟨v, hvn, by rw [cp_wI1, if_neg (by omega), cp_wI1, if_pos ⟨rfl, rfl⟩], ?_, fun h8 => ?_⟩)), (fA 57 9 (decide_eq_false (by omega))).1.trans h57, (fS 83 63 (decide_eq_false (by omega))).1.trans h63, v, hvn, (fS 83 65 (decide_eq_false (by omega))).1.trans hgv, ?_⟩
  · rw [u1, u2, u3, u4]; exact hv2
  · rw [(fS 114 (dm_mc m) (decide_eq_false (by omega))).1]; exact h114 h8
  · rw [(e8 65 (by omega) (by omega)).1, (e8 66 (by omega) (by omega)).1, (e8 67 (by omega) (by omega)).1, (e8 68 (by omega) (by omega)).2]; exact hv2
/-- the definition's own value has come -/
def dw_g2 (A S : cm_S) (V : Nat → ct_T) (st lim wc sh dd b1 b2 b3 b4 b5 : Nat) : Prop := ∃ (G : dm_Gs) (nc ne nv : Nat), dm_M A S V G nc ne 0 nv ∧ dm_H A S nc st lim wc sh ∧ dm_r2 A S dd 0 sh nc ∧ dm_mg A S V G ne nc nv ∧ dw_on A S ∧ dw_ct A nc ne 0 nv b1 b2 b3 b4 b5
/-- any frame -/
theorem dw_res (hM : dm_M A0 S0 V G nc ne (nf + 1) nv) (hH : dm_H A0 S0 nc st lim wc sh) (hr : dm_rA A0 S0 dd (nf + 1) sh nc) (hon0 : dw_on A0 S0) (hmg : dm_mg A0 S0 V G ne nc nv) (hnc : nc + 2 ≤ 8009) (hne0 : ne + 2 * dm_nb A0 (nf + 1) < 8000) (hnf : nf + 1 < 4064) (hnv : nv + 1 < 8192) : ∃ A1 S1, dw_c 67 6 [some (.ref 57), none, none, none] A0 A1 ∧ dw_c 259 3 [some (.ref 83), none, none, none, none, none, none] S0 S1 ∧ cf_W dw_WA A0 A1 ∧ cf_W dw_WS S0 S1 ∧ (dw_go A1 S1 V st lim wc sh dd (nc + dm_nb A0 (nf + 1)) (ne + 2 * dm_nb A0 (nf + 1)) (nv + dm_nb A0 (nf + 1)) (nf + 1) (dm_fw A0 (nf + 1) - 1) ∨ dw_g2 A1 S1 V st lim wc sh dd (nc + dm_nb A0 (nf + 1)) (ne + 2 * dm_nb A0 (nf + 1)) (nv + dm_nb A0 (nf + 1)) (nf + 1) (dm_fw A0 (nf + 1) - 1)) := by
  have hA : cf_W (fun b j => decide (b = 72 ∧ j = 4)) A0 (cm_wI A0 72 4 (Int32.ofNat nf)) := cf_wI (decide_eq_true ⟨rfl, rfl⟩)
  have hS : cf_W (fun b j => decide (b = 83 ∧ j = 59)) S0 (cm_wI S0 83 59 (Int32.ofNat nf)) := cf_wI (decide_eq_true ⟨rfl, rfl⟩)
  have hM1 := dm_M_po hM
  obtain ⟨m1, m2, m3, m4, m5, m6, m7, m8, m9, m10, m11, m12⟩ := id hM
  have hH1 := dm_H_cf hA hS (fun b j hb => decide_eq_false (by omega)) (fun b j hb => decide_eq_false (by omega)) (Nat.le_refl _) hH
  have hfr := dm_fr_c2 (nf := nf + 1) hA hS (fun b j hb => decide_eq_false (by omega)) (fun b j hb => decide_eq_false (by omega)) (fun _ _ => rfl) (Nat.le_refl _) (Nat.le_refl _) (Nat.le_refl _) m2 (Nat.lt_succ_self nf) (m12 nf (Nat.lt_succ_self nf))
  obtain ⟨h57, h63, v, hvn, hgv, hvl⟩ := hmg
  have hvl1 := dm_vl_c2 (nf := 0) (n0 := 0) hA hS (fun b j hb => decide_eq_false (by omega)) (fun b j hb => decide_eq_false (by omega)) (fun _ _ => rfl) (Nat.le_refl ne) (Nat.le_refl nc) hvn hvl
  have e8 : ∀ b, 65 ≤ b → b ≤ 68 → (cm_wI A0 72 4 (Int32.ofNat nf)).1 b 8 = A0.1 b 8 ∧ (cm_wI A0 72 4 (Int32.ofNat nf)).2 b 8 = A0.2 b 8 := fun b h1 h2 => hA b 8 (decide_eq_false (by omega))
  rw [← (e8 65 (by omega) (by omega)).1, ← (e8 66 (by omega) (by omega)).1, ← (e8 67 (by omega) (by omega)).1, ← (e8 68 (by omega) (by omega)).2] at hvl1
  have hon : dw_on (cm_wI A0 72 4 (Int32.ofNat nf)) (cm_wI S0 83 59 (Int32.ofNat nf)) := ⟨(hA 57 6 (decide_eq_false (by omega))).1.trans hon0.1, (hS 83 40 (decide_eq_false (by omega))).1.trans hon0.2⟩
  have h57b := (hA 57 9 (decide_eq_false (by omega))).1.trans h57
  have h63b := (hS 83 63 (decide_eq_false (by omega))).1.trans h63
  have hgvb := (hS 83 65 (decide_eq_false (by omega))).1.trans hgv
  have n1 : dm_nb A0 (nf + 1) = dm_nb (cm_wI A0 72 4 (Int32.ofNat nf)) nf + (if (cm_wI A0 72 4 (Int32.ofNat nf)).1 73 nf = -1 then 0 else 1) := by
    show dm_nb A0 nf + (if A0.1 73 nf = -1 then 0 else 1) = _
    rw [(hA 73 nf (decide_eq_false (by omega))).1, dm_nb_cf nf (fun i _ => (hA 73 i (decide_eq_false (by omega))).1)]
  have n2 : dm_fw A0 (nf + 1) = dm_fw (cm_wI A0 72 4 (Int32.ofNat nf)) nf + (if (cm_wI A0 72 4 (Int32.ofNat nf)).1 73 nf = 9 then 2 else 1) := by
    show dm_fw A0 nf + (if A0.1 73 nf = 9 then 2 else 1) = _
    rw [(hA 73 nf (decide_eq_false (by omega))).1, dm_fw_cf nf (fun i _ => (hA 73 i (decide_eq_false (by omega))).1)]
  have i73 : ∀ i, (cm_wI A0 72 4 (Int32.ofNat nf)).1 73 i = A0.1 73 i := fun i => (hA 73 i (decide_eq_false (by omega))).1
  have i74 : ∀ i, (cm_wI A0 72 4 (Int32.ofNat nf)).1 74 i = A0.1 74 i := fun i => (hA 74 i (decide_eq_false (by omega))).1
  generalize hAA : cm_wI A0 72 4 (Int32.ofNat nf) = A at *
  generalize hSS : cm_wI S0 83 59 (Int32.ofNat nf) = S at *
  -- the root's part once the frame is off
  have i65 : ∀ m, A.1 65 m = A0.1 65 m := fun m => (hA 65 m (decide_eq_false (by omega))).1
  have hrA : (0 < nf ∨ ¬ S0.1 83 44 = -1) → dm_dz A nc nf → dm_rA A S dd nf sh nc := fun hh hdz => by
    obtain ⟨r1, r2, r3, r4⟩ := hr
    refine ⟨(hA _ _ (decide_eq_false (by omega))).1.trans r1, r2, ⟨by rw [i65]; exact r3.1, hdz⟩, ?_⟩
    rw [(hS 83 44 (decide_eq_false (by omega))).1, (hS 116 dd (decide_eq_false (by omega))).1]
    rcases r4 with ⟨r5, r6, r7, r8, r9, r10⟩ | ⟨r5, r6, r7⟩
    · refine Or.inl ⟨r5, r6, hh.elim id (fun hx => absurd r5 hx), by rw [i73]; exact r8, by rw [i74]; exact r9, fun i hi hi2 hk => ?_⟩
      rw [i73] at hk
      rw [i74]
      exact r10 i hi (by omega) hk
    · refine Or.inr ⟨r5, r6, fun i hi hk => ?_⟩
      rw [i73] at hk
      rw [i74]
      exact r7 i (by omega) hk
  have hrD : (0 < nf ∨ ¬ S0.1 83 44 = -1) → A.1 57 5 = Int32.ofNat dd ∧ dd < 8 ∧ ¬ A.1 65 dd = -1 ∧ ((S.1 83 44 = -1 ∧ sh = 0 ∧ 0 < nf ∧ A.1 73 0 = -1 ∧ A.1 74 0 = Int32.ofNat dd ∧ ∀ i, 0 < i → i < nf → A.1 73 i = -1 → ¬ A.1 74 i = Int32.ofNat dd) ∨ (¬ S.1 83 44 = -1 ∧ S.1 83 44 = S.1 116 dd ∧ ∀ i, i < nf → A.1 73 i = -1 → ¬ A.1 74 i = Int32.ofNat dd)) := fun hh => by
    obtain ⟨r1, r2, r3, r4⟩ := hr
    refine ⟨(hA _ _ (decide_eq_false (by omega))).1.trans r1, r2, by rw [i65]; exact r3.1, ?_⟩
    rw [(hS 83 44 (decide_eq_false (by omega))).1, (hS 116 dd (decide_eq_false (by omega))).1]
    rcases r4 with ⟨r5, r6, r7, r8, r9, r10⟩ | ⟨r5, r6, r7⟩
    · refine Or.inl ⟨r5, r6, hh.elim id (fun hx => absurd r5 hx), by rw [i73]; exact r8, by rw [i74]; exact r9, fun i hi hi2 hk => ?_⟩
      rw [i73] at hk
      rw [i74]
      exact r10 i hi (by omega) hk
    · refine Or.inr ⟨r5, r6, fun i hi hk => ?_⟩
      rw [i73] at hk
      rw [i74]
      exact r7 i (by omega) hk
  rcases hfr with ⟨k1, k2, m, k3, k4, k5, k6, k7⟩ | ⟨g, q, e, a, b, c, t2, k1, k2, k3, k4⟩
  · have hmk := dm_mc_lt k3 k4 m2
    obtain ⟨c1, c2⟩ := dw_up hAA.symm hSS.symm m7 m8 hM1.2.2.2.2.2.2.1 hM1.2.2.2.2.2.2.2.1 hM1.2.2.1 (by omega) m2 hnf k1 k5 k3 k2 k6 (by omega) hgvb (by omega)
    obtain ⟨fA, fS, hcl, hmg1⟩ := dw_upR hM1 (by omega) hvn k3 k4 k7 h57b h63b hgvb hvl1
    have hM2 := dm_M_1 fA fS k3 k4 hcl hM1
    have hH2 := dm_H_cf fA fS (fun b j hb => decide_eq_false (by omega)) (fun b j hb => decide_eq_false (by omega)) (Nat.le_refl _) hH1
    have hon2 : dw_on (de_fi A m (A.1 65 8) (A.1 66 8) (A.1 67 8) (A.2 68 8)) (cm_wI (cm_wI S 116 (dm_mc m) (Int32.ofNat v)) 117 (dm_mc m) 0) := ⟨(fA 57 6 (decide_eq_false (by omega))).1.trans hon.1, (fS 83 40 (decide_eq_false (by omega))).1.trans hon.2⟩
    rw [if_pos k1] at n1
    rw [if_neg (by rw [k1]; decide)] at n2
    have ct2 : dw_ct (de_fi A m (A.1 65 8) (A.1 66 8) (A.1 67 8) (A.2 68 8)) nc ne nf nv (nc + dm_nb A0 (nf + 1)) (ne + 2 * dm_nb A0 (nf + 1)) (nv + dm_nb A0 (nf + 1)) (nf + 1) (dm_fw A0 (nf + 1) - 1) := dw_ct_cf (A := A) (fun i2 _ => (fA 73 i2 (decide_eq_false (by omega))).1) ⟨by omega, by omega, by omega, by omega, by omega⟩
    have hkv : ¬ A.1 65 8 = -2 ∧ ¬ A.1 65 8 = -1 := by
      rcases hvl1 with ⟨q1, _⟩ | ⟨q1, _⟩ | ⟨q1, _⟩ | ⟨q1, _⟩ <;> rw [q1] <;> decide
    have hdz2 : ∀ m2, m2 < nc → ¬ m2 = 8 → (de_fi A m (A.1 65 8) (A.1 66 8) (A.1 67 8) (A.2 68 8)).1 65 m2 = -2 → ¬ m2 = m ∧ ∃ i, i < nf ∧ A.1 73 i = -1 ∧ A.1 74 i = Int32.ofNat m2 := fun m2 hm2 hm3 hb => by
      by_cases hmm : m2 = m
      · rw [hmm, de_fi_at.1] at hb
        exact absurd hb hkv.1
      · rw [(fA 65 m2 (decide_eq_false (by omega))).1, i65] at hb
        obtain ⟨i, i1, i2, i3⟩ := hr.2.2.1.2 m2 hm2 hm3 hb
        refine ⟨hmm, i, ?_, by rw [i73]; exact i2, by rw [i74]; exact i3⟩
        by_cases hin : i = nf
        · subst hin
          rw [i74, i3] at k5
          exact absurd ((cp_inj (by omega) (by omega)).mp k5) hmm
        · omega
    refine ⟨_, _, c1, c2, cf_tr (cf_mono hA (fun b j h => decide_eq_true (by have h := of_decide_eq_true h; omega))) (cf_mono fA (fun b j h => decide_eq_true (by have h := of_decide_eq_true h; omega))), cf_tr (cf_mono hS (fun b j h => decide_eq_true (by have h := of_decide_eq_true h; omega))) (cf_mono fS (fun b j h => decide_eq_true (by have h := of_decide_eq_true h; omega))), ?_⟩
    by_cases hmd : m = dd
    · subst hmd
      refine Or.inr ?_
      obtain ⟨r1, r2, r3, r4⟩ := hr
      have hmm : dm_mc m = m := by unfold dm_mc; rw [if_pos (by omega)]
      rcases r4 with ⟨r5, r6, r7, r8, r9, r10⟩ | ⟨r5, r6, r7⟩
      · have hn0 : nf = 0 := by
          by_cases hn0 : nf = 0
          · exact hn0
          · exact absurd (by rw [← i74]; exact k5) (r10 nf (by omega) (Nat.lt_succ_self _) (by rw [← i73]; exact k1))
        subst hn0
        refine ⟨G, nc, ne, nv, hM2, hH2, ⟨(fA _ _ (decide_eq_false (by omega))).1.trans ((hA _ _ (decide_eq_false (by omega))).1.trans r1), r2, ⟨?_, fun m2 hm2 hm3 hb => by obtain ⟨_, i, i1, _⟩ := hdz2 m2 hm2 hm3 hb; omega⟩, (fS _ _ (decide_eq_false (by omega))).1.trans ((hS _ _ (decide_eq_false (by omega))).1.trans r5), r6, rfl, ?_, ?_⟩, hmg1, hon2, ct2⟩
        · rw [de_fi_at.1]
          exact hkv.2
        · rw [(fS 83 65 (decide_eq_false (by omega))).1, hgvb, hmm, cp_wI1, if_neg (by omega), cp_wI1, if_pos ⟨rfl, rfl⟩]
        · rw [hmm, cp_wI1, if_neg (by omega), cp_wI1, if_pos ⟨rfl, rfl⟩]
          exact cp_m1 (by omega)
      · exact absurd (by rw [← i74]; exact k5) (r7 nf (Nat.lt_succ_self _) (by rw [← i73]; exact k1))
    · have hnf0 : 0 < nf ∨ ¬ S0.1 83 44 = -1 := by
        obtain ⟨r1, r2, r3, r4⟩ := hr
        rcases r4 with ⟨r5, r6, r7, r8, r9, r10⟩ | ⟨r5, r6, r7⟩
        · refine Or.inl (Nat.pos_of_ne_zero (fun hn0 => ?_))
          subst hn0
          rw [i74, r9] at k5
          exact hmd ((cp_inj (by omega) (by omega)).mp k5).symm
        · exact Or.inr r5
      have hmd2 : ¬ dm_mc m = dd := fun hc => hmd (dm_mc_inj (by rw [hc]; unfold dm_mc; rw [if_pos (by have := hr.2.1; omega)]) k4 (by have := hr.2.1; omega))
      have hrA1 : dm_rA (de_fi A m (A.1 65 8) (A.1 66 8) (A.1 67 8) (A.2 68 8)) (cm_wI (cm_wI S 116 (dm_mc m) (Int32.ofNat v)) 117 (dm_mc m) 0) dd nf sh nc := by
        obtain ⟨r1, r2, r3, r4⟩ := hrD hnf0
        refine ⟨(fA _ _ (decide_eq_false (by omega))).1.trans r1, r2, ⟨by rw [(fA 65 dd (decide_eq_false (by omega))).1]; exact r3, fun m2 hm2 hm3 hb => ?_⟩, ?_⟩
        · obtain ⟨_, i, i1, i2, i3⟩ := hdz2 m2 hm2 hm3 hb
          exact ⟨i, i1, by rw [(fA 73 i (decide_eq_false (by omega))).1]; exact i2, by rw [(fA 74 i (decide_eq_false (by omega))).1]; exact i3⟩
        · rw [(fS 83 44 (decide_eq_false (by omega))).1, (fS 116 dd (decide_eq_false (by omega))).1]
          refine r4.imp (fun hx => ⟨hx.1, hx.2.1, hx.2.2.1, by rw [(fA 73 0 (decide_eq_false (by omega))).1]; exact hx.2.2.2.1, by rw [(fA 74 0 (decide_eq_false (by omega))).1]; exact hx.2.2.2.2.1, fun i hi hi2 hk => ?_⟩) (fun hx => ⟨hx.1, hx.2.1, fun i hi hk => ?_⟩)
          · rw [(fA 73 i (decide_eq_false (by omega))).1] at hk
            rw [(fA 74 i (decide_eq_false (by omega))).1]
            exact hx.2.2.2.2.2 i hi hi2 hk
          · rw [(fA 73 i (decide_eq_false (by omega))).1] at hk
            rw [(fA 74 i (decide_eq_false (by omega))).1]
            exact hx.2.2 i hi hk
      exact Or.inl ⟨G, nc, ne, nf, nv, ⟨hM2, hH2, hrA1⟩, ct2, Or.inl ⟨hon2, Or.inr hmg1⟩⟩
  · have hnf0 : 0 < nf ∨ ¬ S0.1 83 44 = -1 := by
      obtain ⟨r1, r2, r3, r4⟩ := hr
      rcases r4 with ⟨r5, r6, r7, r8, r9, r10⟩ | ⟨r5, r6, r7⟩
      · refine Or.inl (Nat.pos_of_ne_zero (fun hn0 => ?_))
        subst hn0
        have hk1 : A.1 73 0 = -1 := by rw [i73]; exact r8
        rcases k4 with ⟨d1, d2, _⟩ | ⟨d1, _⟩
        · rw [hk1] at d1
          rw [← d1] at d2
          rcases d2 with ⟨d3, _⟩ | ⟨d3, _⟩ | ⟨d3, _⟩ | ⟨d3, _⟩ | ⟨d3, _⟩ <;> exact absurd d3 (by decide)
        · rw [hk1] at d1
          exact absurd d1 (by decide)
      · exact Or.inr r5
    have hnm : ¬ A.1 73 nf = -1 := by
      rcases k4 with ⟨d1, d2, _⟩ | ⟨d1, _⟩
      · rcases d2 with ⟨d3, _⟩ | ⟨d3, _⟩ | ⟨d3, _⟩ | ⟨d3, _⟩ | ⟨d3, _⟩ <;> rw [d1, d3] <;> decide
      · rw [d1]; decide
    have hne : ne + 2 < 8000 := by
      rw [if_neg hnm] at n1
      omega
    have hdz : dm_dz A nc nf := fun m2 hm2 hm3 hb => by
      rw [i65] at hb
      obtain ⟨i, i1, i2, i3⟩ := hr.2.2.1.2 m2 hm2 hm3 hb
      refine ⟨i, ?_, by rw [i73]; exact i2, by rw [i74]; exact i3⟩
      by_cases hin : i = nf
      · subst hin
        rw [i73] at hnm
        exact absurd i2 hnm
      · omega
    have hF : dw_F A0 S0 A S V G nc ne nf nv st lim wc sh dd v := ⟨hAA.symm, hSS.symm, m7, m8, ⟨hM1, hH1, hrA hnf0 hdz⟩, hon, hvn, hgvb, hvl1, hnc, hne, hnf, hnv, h57b, h63b⟩
    have fin : ∀ x, ¬ A.1 73 nf = -1 → (x + 1 ≤ dm_fw A0 (nf + 1)) → dw_QF A0 S0 A S V st lim wc sh dd (nc + dm_nb A nf + 1) (ne + 2 * dm_nb A nf + 2) (nv + dm_nb A nf + 1) (nf + 1) x → ∃ A1 S1, dw_c 67 6 [some (.ref 57), none, none, none] A0 A1 ∧ dw_c 259 3 [some (.ref 83), none, none, none, none, none, none] S0 S1 ∧ cf_W dw_WA A0 A1 ∧ cf_W dw_WS S0 S1 ∧ (dw_go A1 S1 V st lim wc sh dd (nc + dm_nb A0 (nf + 1)) (ne + 2 * dm_nb A0 (nf + 1)) (nv + dm_nb A0 (nf + 1)) (nf + 1) (dm_fw A0 (nf + 1) - 1) ∨ dw_g2 A1 S1 V st lim wc sh dd (nc + dm_nb A0 (nf + 1)) (ne + 2 * dm_nb A0 (nf + 1)) (nv + dm_nb A0 (nf + 1)) (nf + 1) (dm_fw A0 (nf + 1) - 1)) := fun x hx1 hx2 hx3 => by
      obtain ⟨A1, S1, y1, y2, y3, y4, y5⟩ := hx3
      rw [if_neg hx1] at n1
      exact ⟨A1, S1, y1, y2, cf_tr (cf_mono hA (fun b j h => decide_eq_true (by have h := of_decide_eq_true h; omega))) y3, cf_tr (cf_mono hS (fun b j h => decide_eq_true (by have h := of_decide_eq_true h; omega))) y4, Or.inl (dw_go_mo y5 (by omega) (by omega) (by omega) (by omega) (by omega))⟩
    rcases k4 with ⟨d1, d2, d3, d4⟩ | ⟨d1, d2, d3, v2, d4, d5, d6, d7⟩
    · rcases d2 with ⟨d2, d5⟩ | ⟨d2, d5⟩ | ⟨d2, d5⟩ | ⟨d2, d5⟩ | ⟨d2, d5⟩ <;> rw [d2] at d1
      · rw [if_neg (by rw [d1]; decide)] at n2
        exact fin _ (by rw [d1]; decide) (by omega) (dw_r5 hF k2 d2 d1 k1 d5 k3 rfl d4 d3)
      · rw [if_neg (by rw [d1]; decide)] at n2
        exact fin _ (by rw [d1]; decide) (by omega) (dw_r8 hF k2 d2 d1 k1 d5 k3 rfl d4 d3)
      · rw [if_pos d1] at n2
        exact fin _ (by rw [d1]; decide) (by omega) (dw_r9 hF k2 d2 d1 k1 d5 k3 rfl d4 d3)
      · rw [if_neg (by rw [d1]; decide)] at n2
        exact fin _ (by rw [d1]; decide) (by omega) (dw_r12 hF k2 d2 d1 k1 d5 k3 rfl d4 d3)
      · rw [if_neg (by rw [d1]; decide)] at n2
        exact fin _ (by rw [d1]; decide) (by omega) (dw_r13 hF k2 d2 d1 k1 d5 k3 rfl d4 d3)
    · rw [if_neg (by rw [d1]; decide)] at n2
      exact fin _ (by rw [d1]; decide) (by omega) (dw_r2 hF k2 d2 d1 k1 d3 k3 d4 d5 d6 d7)
end DMa29
