/-! ## a22 the run machine: what holds between turns -/
/-- trees of the same rows are the same -/
theorem dm_same {A : cm_S} : ∀ t, ct_wf t → ∀ (q : Nat) (t2 : ct_T), ct_wf t2 → ¬ t = .leaf → ¬ t2 = .leaf → ck_t A 58 q t → ck_t A 58 q t2 → t = t2 :=
  ct_ind (fun q t2 _ h => absurd rfl h) (fun e a b c hw iha ihb ihc q t2 hw2 _ hl h h2 => by
    obtain ⟨f, x, y, z, rfl⟩ := ct_cs hw2 hl
    rw [ck_t_nd] at h h2
    obtain ⟨t0, t1, t2, t3, t4, t5⟩ := h
    obtain ⟨u0, u1, u2, u3, u4, u5⟩ := h2
    have hef : e = f := t0.symm.trans u0
    subst hef
    obtain ⟨w1, w2, w3, w4, wa, wb, wc⟩ := ct_wf_nd hw
    obtain ⟨v1, v2, v3, v4, va, vb, vc⟩ := ct_wf_nd hw2
    have ha : a = x := by
      by_cases la : a = .leaf
      · rw [la, v2.mpr (w2.mp la)]
      · exact iha _ x va la (fun hc => la (w2.mpr (v2.mp hc))) t3 u3
    subst ha
    have hb : b = y := by
      by_cases lb : b = .leaf
      · rw [lb, v3.mpr (w3.mp lb)]
      · exact ihb _ y vb lb (fun hc => lb (w3.mpr (v3.mp hc))) t4 u4
    subst hb
    have hc : c = z := by
      by_cases lc : c = .leaf
      · rw [lc, v4.mpr (w4.mp lc)]
      · exact ihc _ z vc lc (fun hc => lc (w4.mpr (v4.mp hc))) t5 u5
    rw [hc])
theorem dm_n_same {A S S2 : cm_S} {V V2 : Nat → ct_T} {g g2 q : Nat} {t t2 u u2 : ct_T} (h : dm_n A S V g q t t2) (h2 : dm_n A S2 V2 g2 q u u2) : g = g2 ∧ t = u := by
  obtain ⟨n1, n2, n3, n4, n5, n6, n7, n8, n9⟩ := h
  obtain ⟨m1, m2, m3, m4, m5, m6, m7, m8, m9⟩ := h2
  have s1 := ct_sz_ne n4.1 n6
  have s2 := ct_sz_ne m4.1 m6
  exact ⟨by omega, dm_same t n4.1 q u m4.1 n6 m6 n7 m7⟩
/-- frames that are not of cells -/
def dm_nb (A : cm_S) : Nat → Nat
  | 0 => 0
  | n + 1 => dm_nb A n + (if A.1 73 n = -1 then 0 else 1)
theorem dm_nb_cf {A A2 : cm_S} : ∀ n, (∀ i, i < n → A2.1 73 i = A.1 73 i) → dm_nb A2 n = dm_nb A n
  | 0, _ => rfl
  | n + 1, h => by
    show dm_nb A2 n + (if A2.1 73 n = -1 then 0 else 1) = dm_nb A n + (if A.1 73 n = -1 then 0 else 1)
    rw [dm_nb_cf n (fun i hi => h i (by omega)), h n (by omega)]
def dm_H (A S : cm_S) (nc st lim wc sh : Nat) : Prop := A.1 57 7 = Int32.ofNat st ∧ S.1 83 42 = Int32.ofNat st ∧ A.1 57 8 = Int32.ofNat lim ∧ S.1 83 43 = Int32.ofNat lim ∧ A.1 77 1 = Int32.ofNat wc ∧ S.1 83 68 = Int32.ofNat wc ∧ A.1 77 2 = Int32.ofNat sh ∧ S.1 83 67 = Int32.ofNat sh ∧ A.2 77 3 = S.2 83 71 ∧ (∀ i, i < wc → S.1 129 i = dm_ce (A.1 78 i) ∧ dm_cr nc (A.1 78 i)) ∧ ∀ i, i < 6 → A.1 79 i = S.1 128 i
/-- a cell that is being evaluated has its frame -/
def dm_dz (A : cm_S) (nc nf : Nat) : Prop := ∀ m, m < nc → ¬ m = 8 → A.1 65 m = -2 → ∃ i, i < nf ∧ A.1 73 i = -1 ∧ A.1 74 i = Int32.ofNat m
/-- the definition that is run: its cell, the value that it came to -/
def dm_rA (A S : cm_S) (dd nf sh nc : Nat) : Prop := A.1 57 5 = Int32.ofNat dd ∧ dd < 8 ∧ (¬ A.1 65 dd = -1 ∧ dm_dz A nc nf) ∧
  ((S.1 83 44 = -1 ∧ sh = 0 ∧ 0 < nf ∧ A.1 73 0 = -1 ∧ A.1 74 0 = Int32.ofNat dd ∧ ∀ i, 0 < i → i < nf → A.1 73 i = -1 → ¬ A.1 74 i = Int32.ofNat dd) ∨
   (¬ S.1 83 44 = -1 ∧ S.1 83 44 = S.1 116 dd ∧ ∀ i, i < nf → A.1 73 i = -1 → ¬ A.1 74 i = Int32.ofNat dd))
/-- all that holds whatever is being done -/
def dm_P (A S : cm_S) (V : Nat → ct_T) (G : dm_Gs) (nc ne nf nv st lim wc sh dd : Nat) : Prop := dm_M A S V G nc ne nf nv ∧ dm_H A S nc st lim wc sh ∧ dm_rA A S dd nf sh nc
section DMa22
variable {WA WS : Nat → Nat → Bool} {A A2 S S2 : cm_S} {V : Nat → ct_T} {G G2 : dm_Gs} {nc ne nf nv st lim wc sh dd nc2 ne2 nv2 : Nat}
theorem dm_H_cf (hA : cf_W WA A A2) (hS : cf_W WS S S2) (oA : ∀ b j, (b = 57 ∧ (j = 7 ∨ j = 8) ∨ 77 ≤ b ∧ b ≤ 79) → WA b j = false) (oS : ∀ b j, (b = 83 ∧ (j = 42 ∨ j = 43 ∨ j = 67 ∨ j = 68 ∨ j = 71) ∨ 128 ≤ b ∧ b ≤ 129) → WS b j = false) (hn : nc ≤ nc2) (h : dm_H A S nc st lim wc sh) : dm_H A2 S2 nc2 st lim wc sh := by
  obtain ⟨h1, h2, h3, h4, h5, h6, h7, h8, h9, h10, h11⟩ := h
  refine ⟨(hA _ _ (oA _ _ (by omega))).1.trans h1, (hS _ _ (oS _ _ (by omega))).1.trans h2, (hA _ _ (oA _ _ (by omega))).1.trans h3, (hS _ _ (oS _ _ (by omega))).1.trans h4, (hA _ _ (oA _ _ (by omega))).1.trans h5, (hS _ _ (oS _ _ (by omega))).1.trans h6, (hA _ _ (oA _ _ (by omega))).1.trans h7, (hS _ _ (oS _ _ (by omega))).1.trans h8, ?_, fun i hi => ?_, fun i hi => ?_⟩
  · rw [(hA 77 3 (oA _ _ (by omega))).2, (hS 83 71 (oS _ _ (by omega))).2]; exact h9
  · rw [(hA 78 i (oA _ _ (by omega))).1, (hS 129 i (oS _ _ (by omega))).1]
    exact ⟨(h10 i hi).1, dm_cr_mo (h10 i hi).2 hn⟩
  · rw [(hA 79 i (oA _ _ (by omega))).1, (hS 128 i (oS _ _ (by omega))).1]; exact h11 i hi
theorem dm_rA_cz (hA : cf_W WA A A2) (hS : cf_W WS S S2) (oA : ∀ b j, (b = 57 ∧ j = 5 ∨ b = 65 ∧ j = dd ∨ 73 ≤ b ∧ b ≤ 74 ∧ j < nf) → WA b j = false) (oS : ∀ b j, (b = 83 ∧ j = 44 ∨ b = 116 ∧ j = dd) → WS b j = false) (hz : ∀ m, m < nc → ¬ m = 8 → A2.1 65 m = -2 → A.1 65 m = -2) (h : dm_rA A S dd nf sh nc) : dm_rA A2 S2 dd nf sh nc := by
  obtain ⟨h1, h2, h3, h4⟩ := h
  refine ⟨(hA _ _ (oA _ _ (by omega))).1.trans h1, h2, ⟨by rw [(hA 65 dd (oA _ _ (by omega))).1]; exact h3.1, fun m hm hm8 hb => ?_⟩, ?_⟩
  · obtain ⟨i, i1, i2, i3⟩ := h3.2 m hm hm8 (hz m hm hm8 hb)
    exact ⟨i, i1, by rw [(hA 73 i (oA _ _ (by omega))).1]; exact i2, by rw [(hA 74 i (oA _ _ (by omega))).1]; exact i3⟩
  rw [(hS 83 44 (oS _ _ (by omega))).1, (hS 116 dd (oS _ _ (by omega))).1]
  rcases h4 with ⟨h5, h6, h7, h8, h9, h10⟩ | ⟨h5, h6, h7⟩
  · refine Or.inl ⟨h5, h6, h7, by rw [(hA 73 0 (oA _ _ (by omega))).1]; exact h8, by rw [(hA 74 0 (oA _ _ (by omega))).1]; exact h9, fun i hi hi2 hk => ?_⟩
    rw [(hA 73 i (oA _ _ (by omega))).1] at hk
    rw [(hA 74 i (oA _ _ (by omega))).1]
    exact h10 i hi hi2 hk
  · refine Or.inr ⟨h5, h6, fun i hi hk => ?_⟩
    rw [(hA 73 i (oA _ _ (by omega))).1] at hk
    rw [(hA 74 i (oA _ _ (by omega))).1]
    exact h7 i hi hk
theorem dm_rA_cf (hA : cf_W WA A A2) (hS : cf_W WS S S2) (oA : ∀ b j, (b = 57 ∧ j = 5 ∨ b = 65 ∧ (j = dd ∨ j < nc ∧ ¬ j = 8) ∨ 73 ≤ b ∧ b ≤ 74 ∧ j < nf) → WA b j = false) (oS : ∀ b j, (b = 83 ∧ j = 44 ∨ b = 116 ∧ j = dd) → WS b j = false) (h : dm_rA A S dd nf sh nc) : dm_rA A2 S2 dd nf sh nc :=
  dm_rA_cz hA hS (fun b j hb => oA _ _ (by omega)) oS (fun m hm hm8 hb => by rw [← (hA 65 m (oA _ _ (by omega))).1]; exact hb) h
/-- a cell more -/
theorem dm_rA_up (h : dm_rA A S dd nf sh nc) (hn : ¬ A.1 65 nc = -2) : dm_rA A S dd nf sh (nc + 1) := by
  obtain ⟨h1, h2, h3, h4⟩ := h
  refine ⟨h1, h2, ⟨h3.1, fun m hm hm8 hb => ?_⟩, h4⟩
  by_cases hmc : m = nc
  · rw [hmc] at hb; exact absurd hb hn
  · exact h3.2 m (by omega) hm8 hb
/-- a frame more -/
theorem dm_rA_ps {k p : Int32} (hA : cf_W WA A A2) (hS : cf_W WS S S2) (oA : ∀ b j, (b = 57 ∧ j = 5 ∨ b = 65 ∧ j = dd ∨ 73 ≤ b ∧ b ≤ 74 ∧ j < nf) → WA b j = false) (oS : ∀ b j, (b = 83 ∧ j = 44 ∨ b = 116 ∧ j = dd) → WS b j = false) (u1 : A2.1 73 nf = k) (u2 : A2.1 74 nf = p) (hz : ∀ m, m < nc → ¬ m = 8 → A2.1 65 m = -2 → A.1 65 m = -2 ∨ (k = -1 ∧ p = Int32.ofNat m)) (hd : k = -1 → ¬ p = Int32.ofNat dd) (h : dm_rA A S dd nf sh nc) : dm_rA A2 S2 dd (nf + 1) sh nc := by
  obtain ⟨h1, h2, h3, h4⟩ := h
  have i73 : ∀ i, i < nf → A2.1 73 i = A.1 73 i := fun i hi => (hA 73 i (oA _ _ (by omega))).1
  have i74 : ∀ i, i < nf → A2.1 74 i = A.1 74 i := fun i hi => (hA 74 i (oA _ _ (by omega))).1
  refine ⟨(hA _ _ (oA _ _ (by omega))).1.trans h1, h2, ⟨by rw [(hA 65 dd (oA _ _ (by omega))).1]; exact h3.1, fun m hm hm8 hb => ?_⟩, ?_⟩
  · rcases hz m hm hm8 hb with hb | ⟨hk, hp⟩
    · obtain ⟨i, i1, i2, i3⟩ := h3.2 m hm hm8 hb
      exact ⟨i, by omega, by rw [i73 i i1]; exact i2, by rw [i74 i i1]; exact i3⟩
    · exact ⟨nf, Nat.lt_succ_self _, u1.trans hk, u2.trans hp⟩
  rw [(hS 83 44 (oS _ _ (by omega))).1, (hS 116 dd (oS _ _ (by omega))).1]
  rcases h4 with ⟨h5, h6, h7, h8, h9, h10⟩ | ⟨h5, h6, h7⟩
  · refine Or.inl ⟨h5, h6, by omega, by rw [i73 0 h7]; exact h8, by rw [i74 0 h7]; exact h9, fun i hi hi2 hk => ?_⟩
    by_cases hin : i = nf
    · subst hin
      rw [u1] at hk
      rw [u2]
      exact hd hk
    · rw [i73 i (by omega)] at hk
      rw [i74 i (by omega)]
      exact h10 i hi (by omega) hk
  · refine Or.inr ⟨h5, h6, fun i hi hk => ?_⟩
    by_cases hin : i = nf
    · subst hin
      rw [u1] at hk
      rw [u2]
      exact hd hk
    · rw [i73 i (by omega)] at hk
      rw [i74 i (by omega)]
      exact h7 i (by omega) hk
/-- where nothing of it is written -/
theorem dm_P_cf (hA : cf_W WA A A2) (hS : cf_W WS S S2) (oA : ∀ b j, (59 ≤ b ∧ b ≤ 63 ∨ b = 64 ∨ 65 ≤ b ∧ b ≤ 68 ∧ ¬ j = 8 ∨ 69 ≤ b ∧ b ≤ 79 ∨ b = 57 ∧ (j = 5 ∨ j = 7 ∨ j = 8)) → WA b j = false) (oS : ∀ b j, (92 ≤ b ∧ b ≤ 98 ∧ 2400 ≤ j ∧ j < 3600 ∨ 114 ≤ b ∧ b ≤ 129 ∨ b = 83 ∧ ¬ (j = 40 ∨ j = 63 ∨ j = 64 ∨ j = 65 ∨ j = 75)) → WS b j = false) (h : dm_P A S V G nc ne nf nv st lim wc sh dd) : dm_P A2 S2 V G nc ne nf nv st lim wc sh dd :=
  ⟨dm_M_cf hA hS (fun b j hb => oA _ _ (by omega)) (fun b j hb => oS _ _ (by omega)) (oA _ _ (by omega)) (oA _ _ (by omega)) (oA _ _ (by omega)) (oS _ _ (by omega)) (oS _ _ (by omega)) (oS _ _ (by omega)) (oS _ _ (by omega)) h.1, dm_H_cf hA hS (fun b j hb => oA _ _ (by omega)) (fun b j hb => oS _ _ (by omega)) (Nat.le_refl _) h.2.1, dm_rA_cf hA hS (fun b j hb => oA _ _ (by have := h.2.2.2.1; omega)) (fun b j hb => oS _ _ (by omega)) h.2.2⟩
theorem dm_P_mk (h : dm_P A S V G nc ne nf nv st lim wc sh dd) {g q : Nat} {t t2 : ct_T} {s : Int32} (hn : dm_n A S V g q t t2) (hs : dm_sx G ne g t s) : dm_P (de_mk A nc (Int32.ofNat q) s) (me_cl S (nc - 1) (Int32.ofNat (2400 + q)) s) V G (nc + 1) ne nf nv st lim wc sh dd :=
  ⟨dm_M_mk h.1 hn hs, dm_H_cf de_mk_cf me_cl_cf (fun b j hb => decide_eq_false (by omega)) (fun b j hb => decide_eq_false (by omega)) (Nat.le_succ _) h.2.1, dm_rA_up (dm_rA_cf de_mk_cf me_cl_cf (fun b j hb => decide_eq_false (by have := h.2.2.2.1; have := h.1.2.1; omega)) (fun b j hb => decide_eq_false (by have := h.2.2.2.1; have := h.1.2.1; omega)) h.2.2) (by
    show ¬ (de_fi (cm_wI A 64 4 (Int32.ofNat (nc + 1))) nc (-1) (Int32.ofNat q) s 0).1 65 nc = -2
    rw [de_fi_at.1]; decide)⟩
theorem dm_P_bd (h : dm_P A S V G nc ne nf nv st lim wc sh dd) {g : Nat} {x y c o : Int32} (hg : g < 8) (hxy : dm_R V g x y) (hc : dm_cr nc c) (ho : dm_sc G ne g o) : dm_P (de_bd A ne x c o) (me_bd S ne y (dm_ce c) o) V (dm_G2 G ne g x o) nc (ne + 1) nf nv st lim wc sh dd :=
  ⟨dm_M_bd h.1 hg hxy hc ho, dm_H_cf de_bd_cf me_bd_cf (fun b j hb => decide_eq_false (by omega)) (fun b j hb => decide_eq_false (by omega)) (Nat.le_refl _) h.2.1, dm_rA_cf de_bd_cf me_bd_cf (fun b j hb => decide_eq_false (by omega)) (fun b j hb => decide_eq_false (by omega)) h.2.2⟩
/-- a cell and a scope more, the cell whatever it is in the new scope -/
theorem dm_P_mb (hA : cf_W (fun b j => decide (65 ≤ b ∧ b ≤ 68 ∧ j = nc ∨ 69 ≤ b ∧ b ≤ 71 ∧ j = ne ∨ b = 64 ∧ (j = 4 ∨ j = 8))) A A2) (hS : cf_W (fun b j => decide (114 ≤ b ∧ b ≤ 117 ∧ j = nc - 1 ∨ 118 ≤ b ∧ b ≤ 120 ∧ j = ne ∨ b = 83 ∧ (j = 45 ∨ j = 50))) S S2) {g : Nat} {x y c o : Int32} (a4 : A2.1 64 4 = Int32.ofNat (nc + 1)) (s45 : S2.1 83 45 = Int32.ofNat nc) (a8 : A2.1 64 8 = Int32.ofNat (ne + 1)) (s50 : S2.1 83 50 = Int32.ofNat (ne + 1)) (u1 : A2.1 69 ne = x) (u2 : A2.1 70 ne = c) (u3 : A2.1 71 ne = o) (v1 : S2.1 118 ne = y) (v2 : S2.1 119 ne = dm_ce c) (v3 : S2.1 120 ne = o) (hxy : dm_R V g x y) (hc : dm_cr (nc + 1) c) (ho : dm_sc G ne g o) (hcl : dm_cl A2 S2 V (dm_G2 G ne g x o) (ne + 1) (nc + 1) nv nc) (hb2 : ¬ A2.1 65 nc = -2) (h : dm_P A S V G nc ne nf nv st lim wc sh dd) : dm_P A2 S2 V (dm_G2 G ne g x o) (nc + 1) (ne + 1) nf nv st lim wc sh dd := by
  have hdd := h.2.2.2.1
  obtain ⟨h1, h2, h3, h4, h5, h6, h7, h8, h9, h10, h11, h12⟩ := id h.1
  have oA : dm_fA (fun b j => decide (65 ≤ b ∧ b ≤ 68 ∧ j = nc ∨ 69 ≤ b ∧ b ≤ 71 ∧ j = ne ∨ b = 64 ∧ (j = 4 ∨ j = 8))) nc ne nf := fun b j hb => decide_eq_false (by omega)
  have oS : dm_fS (fun b j => decide (114 ≤ b ∧ b ≤ 117 ∧ j = nc - 1 ∨ 118 ≤ b ∧ b ≤ 120 ∧ j = ne ∨ b = 83 ∧ (j = 45 ∨ j = 50))) nc ne nf nv := fun b j hb => decide_eq_false (by omega)
  have hG : ∀ s, s < ne → dm_G2 G ne g x o s = G s := dm_G2_old
  refine ⟨⟨h1, by omega, a4, s45, a8, s50, (hA _ _ (decide_eq_false (by omega))).1.trans h7, (hS _ _ (decide_eq_false (by omega))).1.trans h8, (hS _ _ (decide_eq_false (by omega))).1.trans h9, fun k hk => ?_, fun m hm hm8 => ?_, fun i hi => dm_fr_c2 hA hS oA oS hG (Nat.le_succ _) (Nat.le_succ _) (Nat.le_refl _) h2 hi (h12 i hi)⟩, dm_H_cf hA hS (fun b j hb => decide_eq_false (by omega)) (fun b j hb => decide_eq_false (by omega)) (Nat.le_succ _) h.2.1, dm_rA_up (dm_rA_cf hA hS (fun b j hb => decide_eq_false (by omega)) (fun b j hb => decide_eq_false (by omega)) h.2.2) hb2⟩
  · by_cases hk2 : k = ne
    · subst hk2
      rw [u1, u2, u3, v1, v2, v3, show dm_G2 G k g x o k = (g, fun y => y = x ∨ dm_bs G k o y) from if_pos rfl]
      exact ⟨⟨hxy, fun z hz => hz.imp id (fun hb => dm_bs_mo hb (Nat.le_refl _) hG)⟩, rfl, hc, rfl, dm_sc_mo ho (Nat.le_refl _) hG⟩
    · exact dm_E_c2 hA hS oA oS hG (Nat.le_succ _) h10 (by omega)
  · by_cases hmc : m = nc
    · rw [hmc]; exact hcl
    · exact dm_cl_c2 hA hS oA oS hG (Nat.le_succ _) (Nat.le_succ _) (Nat.le_refl _) h2 (by omega) hm8 (h11 m (by omega) hm8)
theorem dm_P_vl (h : dm_P A S V G nc ne nf nv st lim wc sh dd) {t o1 o2 : Int32} {num : Int64} : dm_P A (me_vl S nv t num o1 o2) V G nc ne nf (nv + 1) st lim wc sh dd :=
  ⟨dm_M_vl h.1, dm_H_cf (WA := fun _ _ => false) cf_rfl me_vl_cf (fun b j hb => rfl) (fun b j hb => decide_eq_false (by omega)) (Nat.le_refl _) h.2.1, dm_rA_cf (WA := fun _ _ => false) cf_rfl me_vl_cf (fun b j hb => rfl) (fun b j hb => decide_eq_false (by omega)) h.2.2⟩
/-- a frame more, not of the definition's cell -/
theorem dm_P_ps (h : dm_P A S V G nc ne nf nv st lim wc sh dd) {k p s k2 p2 s2 : Int32} {num : Int64} (hf : dm_fr (de_ps A nf k p s num) (me_ws S nf k2 p2 s2) V G ne nc nv nf) (hd : k = -1 → ¬ p = Int32.ofNat dd) : dm_P (de_ps A nf k p s num) (me_ws S nf k2 p2 s2) V G nc ne (nf + 1) nv st lim wc sh dd := by
  obtain ⟨u1, u2, _⟩ := de_ps_at (A := A) (nf := nf) (k := k) (p := p) (s := s) (num := num)
  exact ⟨dm_M_ps h.1 hf, dm_H_cf de_ps_cf me_ws_cf (fun b j hb => decide_eq_false (by omega)) (fun b j hb => decide_eq_false (by omega)) (Nat.le_refl _) h.2.1, dm_rA_ps de_ps_cf me_ws_cf (fun b j hb => decide_eq_false (by omega)) (fun b j hb => decide_eq_false (by omega)) u1 u2 (fun m hm hm8 hb => Or.inl (by rw [← (de_ps_cf (A := A) (nf := nf) (k := k) (p := p) (s := s) (num := num) 65 m (decide_eq_false (by omega))).1]; exact hb)) hd h.2.2⟩
/-- one cell changed, not the definition's -/
theorem dm_P_1 {m : Nat} (hA : cf_W (fun b j => decide (65 ≤ b ∧ b ≤ 68 ∧ j = m)) A A2) (hS : cf_W (fun b j => decide (115 ≤ b ∧ b ≤ 117 ∧ j = dm_mc m)) S S2) (hm : m < nc) (hm8 : ¬ m = 8) (hmd : ¬ m = dd) (hcl : dm_cl A2 S2 V G ne nc nv m) (hb2 : ¬ A2.1 65 m = -2) (h : dm_P A S V G nc ne nf nv st lim wc sh dd) : dm_P A2 S2 V G nc ne nf nv st lim wc sh dd := by
  have hdd := h.2.2.2.1
  have hmd2 : ¬ dm_mc m = dd := fun hc => hmd (dm_mc_inj (by rw [hc]; unfold dm_mc; rw [if_pos (by omega)]) hm8 (by omega))
  exact ⟨dm_M_1 hA hS hm hm8 hcl h.1, dm_H_cf hA hS (fun b j hb => decide_eq_false (by omega)) (fun b j hb => decide_eq_false (by omega)) (Nat.le_refl _) h.2.1, dm_rA_cz hA hS (fun b j hb => decide_eq_false (by omega)) (fun b j hb => decide_eq_false (by omega)) (fun m2 hm2 hm3 hb => by
    by_cases hmm : m2 = m
    · rw [hmm] at hb; exact absurd hb hb2
    · rw [← (hA 65 m2 (decide_eq_false (by omega))).1]; exact hb) h.2.2⟩
theorem dm_P_mf {v : Nat} (h : dm_P A S V G nc ne nf nv st lim wc sh dd) (hv : v < nv) (hvl : dm_vl A S V G ne nc (A.1 65 8) (A.1 66 8) (A.1 67 8) (A.2 68 8) v) : dm_P (de_mf A nc) (cm_wI (me_cl S (nc - 1) (-1) (-1)) 116 (nc - 1) (Int32.ofNat v)) V G (nc + 1) ne nf nv st lim wc sh dd := by
  have h9 := h.1.2.1
  have hdd := h.2.2.2.1
  have hA : cf_W (fun b j => decide (65 ≤ b ∧ b ≤ 68 ∧ j = nc ∨ b = 64 ∧ j = 4)) A (de_mf A nc) := cf_tr (cf_wI (decide_eq_true (by omega))) (cf_mono de_fi_cf (fun b j h => decide_eq_true (by have h := of_decide_eq_true h; omega)))
  have hS : cf_W (fun b j => decide (114 ≤ b ∧ b ≤ 117 ∧ j = nc - 1 ∨ b = 83 ∧ j = 45)) S (cm_wI (me_cl S (nc - 1) (-1) (-1)) 116 (nc - 1) (Int32.ofNat v)) := cf_tr me_cl_cf (cf_wI (decide_eq_true (by omega)))
  exact ⟨dm_M_mf h.1 hv hvl, dm_H_cf hA hS (fun b j hb => decide_eq_false (by omega)) (fun b j hb => decide_eq_false (by omega)) (Nat.le_succ _) h.2.1, dm_rA_up (dm_rA_cf hA hS (fun b j hb => decide_eq_false (by omega)) (fun b j hb => decide_eq_false (by omega)) h.2.2) (by
    show ¬ (de_fi (cm_wI A 64 4 (Int32.ofNat (nc + 1))) nc (A.1 65 8) (A.1 66 8) (A.1 67 8) (A.2 68 8)).1 65 nc = -2
    rw [de_fi_at.1]
    rcases hvl with ⟨q1, _⟩ | ⟨q1, _⟩ | ⟨q1, _⟩ | ⟨q1, _⟩ <;> rw [q1] <;> decide)⟩
theorem dm_P_arg (h : dm_P A S V G nc ne nf nv st lim wc sh dd) {g q : Nat} {e : ct_D} {a b c t2 : ct_T} {s : Int32} (hn : dm_n A S V g q (ct_nd e a b c) t2) (hs : dm_sx G ne g (ct_nd e a b c) s) : dm_P (de_aA A nc e q s) (me_aS S nc e q s) V G (de_an nc e) ne nf nv st lim wc sh dd := by
  unfold de_aA me_aS de_an
  by_cases h2 : e.1 = 2
  · rw [if_pos h2, if_pos h2, if_pos h2]; exact h
  · rw [if_neg h2, if_neg h2, if_neg h2]; exact dm_P_mk h hn hs
end DMa22
/-- bounds -/
def dm_B (A : cm_S) (nc ne nf nv st lim wc sh : Nat) : Prop := nc + dm_nb A nf ≤ 9 + 2 * st ∧ ne + 2 * dm_nb A nf ≤ 2 * st ∧ nv + dm_nb A nf ≤ st ∧ nf ≤ st + 1 + sh ∧ st ≤ lim ∧ lim ≤ 3999 ∧ wc ≤ sh ∧ sh ≤ 20
/-- a node is being evaluated -/
def dm_me (A S : cm_S) (V : Nat → ct_T) (G : dm_Gs) (ne : Nat) : Prop := A.1 57 9 = 1 ∧ ∃ g q t t2, A.1 57 10 = Int32.ofNat q ∧ dm_n A S V g q t t2 ∧ dm_sx G ne g t (A.1 57 11) ∧ S.1 83 63 = Int32.ofNat (2400 + q) ∧ S.1 83 64 = A.1 57 11 ∧ S.1 83 65 = -1
/-- a value has been found -/
def dm_mg (A S : cm_S) (V : Nat → ct_T) (G : dm_Gs) (ne nc nv : Nat) : Prop := A.1 57 9 = 0 ∧ S.1 83 63 = -1 ∧ ∃ v, v < nv ∧ S.1 83 65 = Int32.ofNat v ∧ dm_vl A S V G ne nc (A.1 65 8) (A.1 66 8) (A.1 67 8) (A.2 68 8) v
/-- the value of the definition has just come -/
def dm_r2 (A S : cm_S) (dd nf sh nc : Nat) : Prop := A.1 57 5 = Int32.ofNat dd ∧ dd < 8 ∧ (¬ A.1 65 dd = -1 ∧ dm_dz A nc nf) ∧ S.1 83 44 = -1 ∧ sh = 0 ∧ nf = 0 ∧ S.1 83 65 = S.1 116 dd ∧ ¬ S.1 116 dd = -1
