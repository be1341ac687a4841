/-! ## a21 the run machine: one cell changed, arguments -/
theorem dm_mc_inj {m k : Nat} (h : dm_mc m = dm_mc k) (hm : ¬ m = 8) (hk : ¬ k = 8) : m = k := by
  unfold dm_mc at h
  split at h <;> split at h <;> omega
section DMa21
variable {A A2 S S2 : cm_S} {V : Nat → ct_T} {G : dm_Gs} {nc ne nf nv m : Nat}
/-- one cell changed -/
theorem dm_M_1 (hA : cf_W (fun b j => decide (65 ≤ b ∧ b ≤ 68 ∧ j = m)) A A2) (hS : cf_W (fun b j => decide (115 ≤ b ∧ b ≤ 117 ∧ j = dm_mc m)) S S2) (hm : m < nc) (hm8 : ¬ m = 8) (hcl : dm_cl A2 S2 V G ne nc nv m) (h : dm_M A S V G nc ne nf nv) : dm_M A2 S2 V G nc ne nf nv := by
  obtain ⟨h1, h2, h3, h4, h5, h6, h7, h8, h9, h10, h11, h12⟩ := h
  have oA : dm_fA (fun b j => decide (65 ≤ b ∧ b ≤ 68 ∧ j = m)) 0 ne nf := fun b j hb => decide_eq_false (by omega)
  have oS : dm_fS (fun b j => decide (115 ≤ b ∧ b ≤ 117 ∧ j = dm_mc m)) 0 ne nf nv := fun b j hb => decide_eq_false (by omega)
  refine ⟨h1, h2, (hA _ _ (decide_eq_false (by omega))).1.trans h3, (hS _ _ (decide_eq_false (by omega))).1.trans h4, (hA _ _ (decide_eq_false (by omega))).1.trans h5, (hS _ _ (decide_eq_false (by omega))).1.trans h6, (hA _ _ (decide_eq_false (by omega))).1.trans h7, (hS _ _ (decide_eq_false (by omega))).1.trans h8, (hS _ _ (decide_eq_false (by omega))).1.trans h9, fun k hk => dm_E_c2 hA hS oA oS (fun _ _ => rfl) (Nat.le_refl _) h10 hk, fun j hj hj8 => ?_, fun i hi => dm_fr_c3 hA hS oA oS (fun j hj => decide_eq_false (by omega)) (fun _ _ => rfl) (Nat.le_refl _) (Nat.le_refl _) (Nat.le_refl _) h2 hi (h12 i hi)⟩
  by_cases hjm : j = m
  · subst hjm; exact hcl
  have hmc : ¬ dm_mc j = dm_mc m := fun hc => hjm (dm_mc_inj hc hj8 hm8)
  have hold := h11 j hj hj8
  have a1 := hA 65 j (decide_eq_false (by omega))
  have a2 := hA 66 j (decide_eq_false (by omega))
  have a3 := hA 67 j (decide_eq_false (by omega))
  have a4 := hA 68 j (decide_eq_false (by omega))
  have s1 := hS 114 (dm_mc j) (decide_eq_false (by omega))
  have s2 := hS 115 (dm_mc j) (decide_eq_false (by omega))
  have s3 := hS 116 (dm_mc j) (decide_eq_false (by omega))
  have s4 := hS 117 (dm_mc j) (decide_eq_false (by omega))
  unfold dm_cl at hold ⊢
  rw [a1.1, a2.1, a3.1, a4.2, s1.1, s2.1, s3.1, s4.1]
  rcases hold with h | ⟨h4, ⟨g, q, t, t2, h5, h6, h7, h8⟩, h10⟩ | h | ⟨v, h4, h5, h6, h7⟩
  · exact Or.inl h
  · exact Or.inr (Or.inl ⟨h4, ⟨g, q, t, t2, h5, dm_n_c2 hA hS oA oS h6, h7, h8⟩, h10⟩)
  · exact Or.inr (Or.inr (Or.inl h))
  · exact Or.inr (Or.inr (Or.inr ⟨v, h4, h5, dm_vl_c2 hA hS oA oS (fun _ _ => rfl) (Nat.le_refl _) (Nat.le_refl _) h4 h6, h7⟩))
/-- a cell made of the value that was found -/
theorem dm_M_mf {v : Nat} (h : dm_M A S V G nc ne nf nv) (hv : v < nv) (hvl : dm_vl A S V G ne nc (A.1 65 8) (A.1 66 8) (A.1 67 8) (A.2 68 8) v) : dm_M (de_mf A nc) (cm_wI (me_cl S (nc - 1) (-1) (-1)) 116 (nc - 1) (Int32.ofNat v)) V G (nc + 1) ne nf nv := by
  obtain ⟨h1, h2, h3, h4, h5, h6, h7, h8, h9, h10, h11, h12⟩ := h
  have hA : cf_W (fun b j => decide (65 ≤ b ∧ b ≤ 68 ∧ j = nc ∨ b = 64 ∧ j = 4)) A (de_mf A nc) := cf_tr (cf_wI (decide_eq_true (by omega))) (cf_mono de_fi_cf (fun b j h => decide_eq_true (by have h := of_decide_eq_true h; omega)))
  have hS : cf_W (fun b j => decide (114 ≤ b ∧ b ≤ 117 ∧ j = nc - 1 ∨ b = 83 ∧ j = 45)) S (cm_wI (me_cl S (nc - 1) (-1) (-1)) 116 (nc - 1) (Int32.ofNat v)) := cf_tr me_cl_cf (cf_wI (decide_eq_true (by omega)))
  have oA : dm_fA (fun b j => decide (65 ≤ b ∧ b ≤ 68 ∧ j = nc ∨ b = 64 ∧ j = 4)) nc ne nf := fun b j hb => decide_eq_false (by omega)
  have oS : dm_fS (fun b j => decide (114 ≤ b ∧ b ≤ 117 ∧ j = nc - 1 ∨ b = 83 ∧ j = 45)) nc ne nf nv := fun b j hb => decide_eq_false (by omega)
  obtain ⟨v1, v2, v3, v4, v5⟩ := me_cl_at (S := S) (k := nc - 1) (q := -1) (s := -1)
  obtain ⟨u1, u2, u3, u4⟩ := de_fi_at (A := cm_wI A 64 4 (Int32.ofNat (nc + 1))) (i := nc) (st := A.1 65 8) (f := A.1 66 8) (s := A.1 67 8) (num := A.2 68 8)
  refine ⟨h1, by omega, ?_, by rw [cp_wI1, if_neg (by omega), v5]; congr 1; omega, (hA _ _ (decide_eq_false (by omega))).1.trans h5, (hS _ _ (decide_eq_false (by omega))).1.trans h6, (hA _ _ (decide_eq_false (by omega))).1.trans h7, (hS _ _ (decide_eq_false (by omega))).1.trans h8, (hS _ _ (decide_eq_false (by omega))).1.trans h9, fun k hk => dm_E_c2 hA hS oA oS (fun _ _ => rfl) (Nat.le_succ _) h10 hk, fun j hj hj8 => ?_, fun i hi => dm_fr_c2 hA hS oA oS (fun _ _ => rfl) (Nat.le_refl _) (Nat.le_succ _) (Nat.le_refl _) h2 hi (h12 i hi)⟩
  · show (de_fi (cm_wI A 64 4 (Int32.ofNat (nc + 1))) nc _ _ _ _).1 64 4 = _
    rw [(de_fi_cf 64 4 (decide_eq_false (by omega))).1, cp_wI1, if_pos ⟨rfl, rfl⟩]
  · by_cases hjc : j = nc
    · subst hjc
      have hmm : dm_mc j = j - 1 := by unfold dm_mc; rw [if_neg (by omega)]
      refine Or.inr (Or.inr (Or.inr ⟨v, hv, by rw [hmm, cp_wI1, if_pos ⟨rfl, rfl⟩], ?_, fun hc => by omega⟩))
      have h20 := dm_vl_c2 hA hS oA oS (fun _ _ => rfl) (Nat.le_refl ne) (Nat.le_succ j) hv hvl
      show dm_vl (de_mf A j) _ V G ne (j + 1) ((de_fi (cm_wI A 64 4 (Int32.ofNat (j + 1))) j (A.1 65 8) (A.1 66 8) (A.1 67 8) (A.2 68 8)).1 65 j) ((de_fi (cm_wI A 64 4 (Int32.ofNat (j + 1))) j (A.1 65 8) (A.1 66 8) (A.1 67 8) (A.2 68 8)).1 66 j) ((de_fi (cm_wI A 64 4 (Int32.ofNat (j + 1))) j (A.1 65 8) (A.1 66 8) (A.1 67 8) (A.2 68 8)).1 67 j) ((de_fi (cm_wI A 64 4 (Int32.ofNat (j + 1))) j (A.1 65 8) (A.1 66 8) (A.1 67 8) (A.2 68 8)).2 68 j) v
      rw [u1, u2, u3, u4]
      exact h20
    · exact dm_cl_c2 hA hS oA oS (fun _ _ => rfl) (Nat.le_refl _) (Nat.le_succ _) (Nat.le_refl _) h2 (by omega) hj8 (h11 j (by omega) hj8)
end DMa21
/-- the cell of an argument: that of a variable, or a new one -/
def de_ac (A : cm_S) (nc : Nat) (e : ct_D) (s : Int32) : Int32 := if e.1 = 2 then dm_fd A e.2.2.1 8000 s else Int32.ofNat nc
def de_aA (A : cm_S) (nc : Nat) (e : ct_D) (q : Nat) (s : Int32) : cm_S := if e.1 = 2 then A else de_mk A nc (Int32.ofNat q) s
def me_aS (S : cm_S) (nc : Nat) (e : ct_D) (q : Nat) (s : Int32) : cm_S := if e.1 = 2 then S else me_cl S (nc - 1) (Int32.ofNat (2400 + q)) s
def de_an (nc : Nat) (e : ct_D) : Nat := if e.1 = 2 then nc else nc + 1
section CPa21
variable {L : Nat} {xs : Nat → Int32} {d : Nat} {A S : cm_S} {V : Nat → ct_T} {G : dm_Gs} {nc ne nf nv : Nat} {g q : Nat} {e : ct_D} {a b c t2 : ct_T} {s : Int32} {K : cm_K}
theorem dm_arg (h : dm_M A S V G nc ne nf nv) (hne : ne < 8000) (hn : dm_n A S V g q (ct_nd e a b c) t2) (hs : dm_sx G ne g (ct_nd e a b c) s) : dm_M (de_aA A nc e q s) (me_aS S nc e q s) V G (de_an nc e) ne nf nv ∧ dm_cr (de_an nc e) (de_ac A nc e s) := by
  unfold de_aA me_aS de_an de_ac
  by_cases h2 : e.1 = 2
  · rw [if_pos h2, if_pos h2, if_pos h2, if_pos h2]
    exact ⟨h, dm_fd_cr h.2.2.2.2.2.2.2.2.2.1 (by omega) ne 8000 s (Nat.le_refl _) hne (dm_l2 hs h2)⟩
  · rw [if_neg h2, if_neg h2, if_neg h2, if_neg h2]
    exact ⟨dm_M_mk h hn hs, nc, by omega, by have := h.2.1; omega, rfl⟩
theorem cp_65 (h : dm_M A S V G nc ne nf nv) (hn : dm_n A S V g q (ct_nd e a b c) t2) (hs : dm_sc G ne g s) (hnc : nc < 8009) (hne : ne ≤ 8000) (k : K (.inl (some (.int (de_ac A nc e s)))) (de_aA A nc e q s) 0) : cm_At (am_XX L xs) (d + 4) 65 0 [some (.ref 57), some (.int (Int32.ofNat q)), some (.int s)] [] A K := by
  unfold de_ac de_aA at k
  refine cx_65_0 _ _ ?_
  refine dm_8 hn (cp_r1 ?_)
  refine ⟨fun h2 => ?_, fun h2 => ?_⟩
  · rw [if_pos h2, if_pos h2] at k
    refine dm_9 hn (cp_r1 ?_)
    exact dm_127 h.2.2.2.2.2.2.2.2.2.1 hne hs (cp_r1 k)
  · rw [if_neg h2, if_neg h2] at k
    exact cp_123 h.2.2.1 hnc (cp_r1 k)
theorem dm_nm1 (hn : dm_n A S V g q (ct_nd e a b c) t2) (hk : ct_nw e) {f : ct_D} (hed : ct_ed (dm_R V g) e f) (h : e.1 = 2 ∨ e.1 = 4 ∨ e.1 = 6 ∨ e.1 = 7 ∨ e.1 = 8 ∨ e.1 = 12) : dm_R V g e.2.2.1 f.2.2.1 := by
  have hne : ¬ e.2.2.1 = -1 := by
    rcases h with h | h | h | h | h | h
    · exact (hk.1 (Or.inl h)).1
    · exact (hk.1 (Or.inr (Or.inl h))).1
    · exact (hk.1 (Or.inr (Or.inr (Or.inl h)))).1
    · exact (hk.1 (Or.inr (Or.inr (Or.inr (Or.inl h))))).1
    · exact (hk.1 (Or.inr (Or.inr (Or.inr (Or.inr h))))).1
    · exact (hk.2.1 h).1
  rcases hed.2.2.1 with h | h
  · exact absurd h.1 hne
  · exact h.2.2
theorem cp_252 (h : dm_M A S V G nc ne nf nv) (hn : dm_n A S V g q (ct_nd e a b c) t2) (hs : dm_sc G ne g s) (hnc : nc ≤ 8192) (hne : ne < 8000) (k : K (.inl (some (.int (dm_ce (de_ac A nc e s))))) (me_aS S nc e q s) 0) : cm_At (am_XX L xs) (d + 2) 252 0 [some (.ref 83), some (.int (Int32.ofNat (2400 + q))), some (.int s)] [] S K := by
  unfold de_ac me_aS at k
  obtain ⟨f, x, y, z, pa, pb, pc, rfl, hnn, hed, ha, hb, hc⟩ := dm_n_nd hn
  have hq : 2400 + q < 8192 := hnn.1
  have hnw := (dt_w_nd hn.2.2.2.1).1
  refine cx_252_0 _ _ ⟨cp_in hq (by decide), ?_⟩
  rw [cp_cl (by omega)]
  rintro _ rfl
  rw [(dm_nk hnn).1, ← hed.1]
  refine ⟨fun h2 => ⟨cp_in hq (by decide), ?_⟩, fun h2 => ?_⟩
  · rw [if_pos h2, if_pos h2] at k
    rintro _ rfl
    rw [(dm_nk hnn).2.2.1]
    exact dm_251 (h.1 g hn.1) (dm_nm1 hn hnw hed (Or.inl h2)) h.2.2.2.2.2.2.2.2.2.1 hne hs (cp_r1 k)
  · rw [if_neg h2, if_neg h2] at k
    have h9 := h.2.1
    refine cp_249 (k := nc - 1) h.2.2.2.1 (by omega) (cp_r1 ?_)
    rw [dm_ce_at (by omega), show dm_mc nc = nc - 1 by unfold dm_mc; rw [if_neg (by omega)]] at k
    exact k
end CPa21
