/-! ## a23 the run machine: a cell is entered -/
/-- a cell is entered: the class -/
def de_en (A : cm_S) (nf m : Nat) : cm_S := if A.1 65 m = -2 then cm_wI A 57 6 4 else if A.1 65 m = -1 then de_nx (de_ps (cm_wI A 65 m (-2)) nf (-1) (Int32.ofNat m) 0 0) (A.1 66 m) (A.1 67 m) else if A.1 65 m = 0 then cm_wI A 57 6 3 else de_gv A (A.1 65 m) (A.1 66 m) (A.1 67 m) (A.2 68 m)
/-- the model -/
def me_as (S : cm_S) (nf k : Nat) : cm_S := if S.1 116 k = -1 then (if S.1 117 k = 0 then me_ev (me_ws (cm_wI S 117 k 1) nf 0 (Int32.ofNat k) (-1)) (S.1 114 k) (S.1 115 k) else cm_wI S 83 40 4) else me_gv S (S.1 116 k)
section CPa23
variable {L : Nat} {xs : Nat → Int32} {d : Nat} {A S : cm_S} {K : cm_K} {nc ne nf nv m k : Nat}
theorem dm_k2 {x : Int32} : (x.toInt = (-2 : Int) ↔ x = -2) ∧ (x.toInt = (-1 : Int) ↔ x = -1) ∧ (x.toInt = (0 : Int) ↔ x = 0) := by
  refine ⟨?_, ?_, ?_⟩
  · rw [← Int32.toInt_inj, show (-2 : Int32).toInt = -2 from rfl]
  · rw [← Int32.toInt_inj, show (-1 : Int32).toInt = -1 from rfl]
  · rw [← Int32.toInt_inj, show (0 : Int32).toInt = 0 from rfl]
theorem cp_66n (h : K (.inl none) (cm_wI A 57 6 3) 0) : cm_At (am_XX L xs) (d + 5) 66 0 [some (.ref 57), some (.int (-1))] [] A K := by
  refine cx_66_0 _ ?_
  refine cp_116n (cp_r1 ?_)
  rw [dm_k2.1, dm_k2.2.1, dm_k2.2.2]
  refine ⟨fun hc => absurd hc (by decide), fun _ => ⟨fun hc => absurd hc (by decide), fun _ => ⟨fun _ => ?_, fun hc => absurd rfl hc⟩⟩⟩
  rintro _ rfl
  exact h
theorem cp_66 (h4 : A.1 64 4 = Int32.ofNat nc) (hnc : nc ≤ 8009) (h72 : A.1 72 4 = Int32.ofNat nf) (hnf : nf < 4064) (hm : m < nc) (h : K (.inl none) (de_en A nf m) 0) : cm_At (am_XX L xs) (d + 5) 66 0 [some (.ref 57), some (.int (Int32.ofNat m))] [] A K := by
  unfold de_en at h
  refine cx_66_0 _ ?_
  refine cp_116 h4 hnc hm (cp_r1 ?_)
  rw [dm_k2.1, dm_k2.2.1, dm_k2.2.2]
  refine ⟨fun h2 => ?_, fun h2 => ⟨fun h1 => ?_, fun h1 => ⟨fun h0 => ?_, fun h0 => ⟨Or.inl rfl, ?_⟩⟩⟩⟩
  · rw [if_pos h2] at h
    rintro _ rfl
    exact h
  · rw [if_neg h2, if_pos h1] at h
    refine cp_122 (by omega) (cp_r0 ?_)
    refine cp_56 (nf := nf) (by rw [cp_wI1, if_neg (by omega)]; exact h72) hnf (cp_r0 ?_)
    have e6 : ∀ b, b = 66 ∨ b = 67 → (de_ps (cm_wI A 65 m (-2)) nf (-1) (Int32.ofNat m) 0 0).1 b m = A.1 b m := fun b hb => by
      rw [(de_ps_cf b m (decide_eq_false (by omega))).1, cp_wI1, if_neg (by omega)]
    refine cp_117 (by omega) (cp_r1 ?_)
    refine cp_118 (by omega) (cp_r1 ?_)
    rw [e6 66 (Or.inl rfl), e6 67 (Or.inr rfl)]
    exact cp_63 (cp_r0 h)
  · rw [if_neg h2, if_neg h1, if_pos h0] at h
    rintro _ rfl
    exact h
  · rw [if_neg h2, if_neg h1, if_neg h0] at h
    rintro _ rfl
    refine cp_121 (nc := nc) (m := m) (j := 8) (by rw [cp_wI1, if_neg (by omega)]; exact h4) hnc hm (by omega) (cp_r0 ?_)
    rw [cp_wI1, if_neg (by omega), cp_wI1, if_neg (by omega), cp_wI1, if_neg (by omega)]
    exact h
theorem cp_256n (h : K (.inl none) (cm_wI S 83 40 3) 0) : cm_At (am_XX L xs) (d + 2) 256 0 [some (.ref 83), some (.int (-1))] [] S K := by
  refine cx_256_0 _ ⟨fun _ => ?_, fun hc => absurd rfl hc⟩
  rintro _ rfl
  exact h
theorem cp_256 (h59 : S.1 83 59 = Int32.ofNat nf) (hnf : nf < 8192) (hk : k < 8192) (h : K (.inl none) (me_as S nf k) 0) : cm_At (am_XX L xs) (d + 2) 256 0 [some (.ref 83), some (.int (Int32.ofNat k))] [] S K := by
  unfold me_as at h
  refine cx_256_0 _ ⟨fun hc => absurd hc (cp_m1 (by omega)), fun _ => ⟨cp_in hk (by decide), ?_⟩⟩
  rw [cp_cl (by omega)]
  rintro _ rfl
  refine ⟨fun h1 => ⟨cp_in hk (by decide), ?_⟩, fun h1 => ⟨cp_in hk (by decide), ?_⟩⟩
  · rw [if_pos h1] at h
    rintro _ rfl
    refine ⟨fun h0 => ⟨cp_in hk (by decide), ?_⟩, fun h0 => ?_⟩
    · rw [if_pos h0] at h
      rintro _ rfl
      refine cp_253 (nf := nf) (by rw [cp_wI1, if_neg (by omega)]; exact h59) hnf (cp_r0 ⟨cp_in hk (by decide), ?_⟩)
      have e6 : ∀ b, b = 114 ∨ b = 115 → (me_ws (cm_wI S 117 k (vp_nar .boolean 1)) nf 0 (Int32.ofNat k) (-1)).1 b k = S.1 b k := fun b hb => by
        rw [(me_ws_cf b k (decide_eq_false (by omega))).1, cp_wI1, if_neg (by omega)]
      rintro _ rfl
      refine ⟨cp_in hk (by decide), ?_⟩
      rintro _ rfl
      rw [e6 114 (Or.inl rfl), e6 115 (Or.inr rfl)]
      exact cp_254 (cp_r0 h)
    · rw [if_neg h0] at h
      rintro _ rfl
      exact h
  · rw [if_neg h1] at h
    rintro _ rfl
    exact cp_255 (cp_r0 h)
end CPa23
section DMa23
variable {A S : cm_S} {V : Nat → ct_T} {G : dm_Gs} {nc ne nf nv st lim wc sh dd m : Nat}
/-- a cell that is busy -/
theorem dm_en1 (h : dm_M A S V G nc ne nf nv) (hm : m < nc) (hm8 : ¬ m = 8) (hs : A.1 65 m = -2) : S.1 116 (dm_mc m) = -1 ∧ ¬ S.1 117 (dm_mc m) = 0 := by
  rcases h.2.2.2.2.2.2.2.2.2.2.1 m hm hm8 with ⟨h1, _⟩ | ⟨h1, _⟩ | ⟨h1, h2, h3, _⟩ | ⟨v, hv, h1, h2, h3⟩
  · rw [hs] at h1; exact absurd h1 (by decide)
  · rw [hs] at h1; exact absurd h1 (by decide)
  · exact ⟨h2, by rw [h3]; decide⟩
  · rw [hs] at h2
    rcases h2 with ⟨h4, _⟩ | ⟨h4, _⟩ | ⟨h4, _⟩ | ⟨h4, _⟩ <;> exact absurd h4 (by decide)
/-- a cell that waits: what its node is -/
theorem dm_en2n (h : dm_M A S V G nc ne nf nv) (hm : m < nc) (hm8 : ¬ m = 8) (hs : A.1 65 m = -1) : (∃ g q t t2, A.1 66 m = Int32.ofNat q ∧ dm_n A S V g q t t2 ∧ S.1 114 (dm_mc m) = Int32.ofNat (2400 + q) ∧ dm_sx G ne g t (A.1 67 m)) ∧ S.1 115 (dm_mc m) = A.1 67 m ∧ S.1 116 (dm_mc m) = -1 ∧ S.1 117 (dm_mc m) = 0 := by
  rcases h.2.2.2.2.2.2.2.2.2.2.1 m hm hm8 with ⟨h1, _⟩ | ⟨h1, h2, h3, h4, h5⟩ | ⟨h1, h2, h3, _⟩ | ⟨v, hv, h1, h2, h3⟩
  · rw [hs] at h1; exact absurd h1 (by decide)
  · exact ⟨h2, h3, h4, h5⟩
  · rw [hs] at h1; exact absurd h1 (by decide)
  · rw [hs] at h2
    rcases h2 with ⟨h4, _⟩ | ⟨h4, _⟩ | ⟨h4, _⟩ | ⟨h4, _⟩ <;> exact absurd h4 (by decide)
theorem dm_en2 (h : dm_P A S V G nc ne nf nv st lim wc sh dd) (hnc : nc ≤ 8009) (hm : m < nc) (hm8 : ¬ m = 8) (hs : A.1 65 m = -1) : dm_P (de_nx (de_ps (cm_wI A 65 m (-2)) nf (-1) (Int32.ofNat m) 0 0) (A.1 66 m) (A.1 67 m)) (me_ev (me_ws (cm_wI S 117 (dm_mc m) 1) nf 0 (Int32.ofNat (dm_mc m)) (-1)) (S.1 114 (dm_mc m)) (S.1 115 (dm_mc m))) V G nc ne (nf + 1) nv st lim wc sh dd ∧ dm_me (de_nx (de_ps (cm_wI A 65 m (-2)) nf (-1) (Int32.ofNat m) 0 0) (A.1 66 m) (A.1 67 m)) (me_ev (me_ws (cm_wI S 117 (dm_mc m) 1) nf 0 (Int32.ofNat (dm_mc m)) (-1)) (S.1 114 (dm_mc m)) (S.1 115 (dm_mc m))) V G ne := by
  obtain ⟨⟨g, q, t, t2, n1, n2, n3, n4⟩, n5, n6, n7⟩ := dm_en2n h.1 hm hm8 hs
  have hmd : ¬ m = dd := fun hc => h.2.2.2.2.1.1 (by rw [← hc]; exact hs)
  have hA1 : cf_W (fun b j => decide (65 ≤ b ∧ b ≤ 68 ∧ j = m)) A (cm_wI A 65 m (-2)) := cf_wI (decide_eq_true (by omega))
  have hS1 : cf_W (fun b j => decide (115 ≤ b ∧ b ≤ 117 ∧ j = dm_mc m)) S (cm_wI S 117 (dm_mc m) 1) := cf_wI (decide_eq_true (by omega))
  have h114 : ∀ j, (cm_wI S 117 (dm_mc m) 1).1 114 j = S.1 114 j := fun j => by rw [cp_wI1, if_neg (by omega)]
  have hnn : ¬ S.1 114 (dm_mc m) = -1 := by
    rw [n3]
    exact cp_m1 (by have := n2.1; have := n2.2.2.1; have := ct_sz_ne n2.2.2.2.1.1 n2.2.2.2.2.2.1; omega)
  have p1 : dm_M (cm_wI A 65 m (-2)) (cm_wI S 117 (dm_mc m) 1) V G nc ne nf nv := by
    refine dm_M_1 hA1 hS1 hm hm8 ?_ h.1
    refine Or.inr (Or.inr (Or.inl ⟨by rw [cp_wI1, if_pos ⟨rfl, rfl⟩], ?_, by rw [cp_wI1, if_pos ⟨rfl, rfl⟩], fun _ => by rw [h114]; exact hnn⟩))
    rw [cp_wI1, if_neg (by omega)]; exact n6
  obtain ⟨u1, u2, u3, u4, u5⟩ := de_ps_at (A := cm_wI A 65 m (-2)) (nf := nf) (k := -1) (p := Int32.ofNat m) (s := 0) (num := 0)
  obtain ⟨v1, v2, v3, v4⟩ := me_ws_at (S := cm_wI S 117 (dm_mc m) 1) (nf := nf) (k := 0) (p := Int32.ofNat (dm_mc m)) (s := -1)
  have p2M := dm_M_ps (k := -1) (p := Int32.ofNat m) (s := 0) (k2 := 0) (p2 := Int32.ofNat (dm_mc m)) (s2 := -1) (num := 0) p1 (Or.inl ⟨u1, v1, m, hm, hm8, u2, v2, fun _ => by
    rw [(me_ws_cf 114 (dm_mc m) (decide_eq_false (by omega))).1, h114]; exact hnn⟩)
  have hA12 : cf_W (fun b j => decide (65 ≤ b ∧ b ≤ 68 ∧ j = m ∨ 73 ≤ b ∧ b ≤ 76 ∧ j = nf ∨ b = 72 ∧ j = 4)) A (de_ps (cm_wI A 65 m (-2)) nf (-1) (Int32.ofNat m) 0 0) := cf_tr (cf_mono hA1 (fun b j h => decide_eq_true (by have h := of_decide_eq_true h; omega))) (cf_mono de_ps_cf (fun b j h => decide_eq_true (by have h := of_decide_eq_true h; omega)))
  have hS12 : cf_W (fun b j => decide (115 ≤ b ∧ b ≤ 117 ∧ j = dm_mc m ∨ 125 ≤ b ∧ b ≤ 127 ∧ j = nf ∨ b = 83 ∧ j = 59)) S (me_ws (cm_wI S 117 (dm_mc m) 1) nf 0 (Int32.ofNat (dm_mc m)) (-1)) := cf_tr (cf_mono hS1 (fun b j h => decide_eq_true (by have h := of_decide_eq_true h; omega))) (cf_mono me_ws_cf (fun b j h => decide_eq_true (by have h := of_decide_eq_true h; omega)))
  have hdd := h.2.2.2.1
  have hmd2 : ¬ dm_mc m = dd := fun hc => hmd (dm_mc_inj (by rw [hc]; unfold dm_mc; rw [if_pos (by omega)]) hm8 (by omega))
  have p2 : dm_P (de_ps (cm_wI A 65 m (-2)) nf (-1) (Int32.ofNat m) 0 0) (me_ws (cm_wI S 117 (dm_mc m) 1) nf 0 (Int32.ofNat (dm_mc m)) (-1)) V G nc ne (nf + 1) nv st lim wc sh dd := ⟨p2M, dm_H_cf hA12 hS12 (fun b j hb => decide_eq_false (by omega)) (fun b j hb => decide_eq_false (by omega)) (Nat.le_refl _) h.2.1, dm_rA_ps hA12 hS12 (fun b j hb => decide_eq_false (by omega)) (fun b j hb => decide_eq_false (by omega)) u1 u2 (fun m2 hm2 hm3 hb => by
    by_cases hmm : m2 = m
    · exact Or.inr ⟨rfl, by rw [hmm]⟩
    · exact Or.inl (by rw [← (hA12 65 m2 (decide_eq_false (by omega))).1]; exact hb)) (fun _ hc => hmd ((cp_inj (by omega) (by have := h.2.2.2.1; omega)).mp hc)) h.2.2⟩
  have hA3 : cf_W (fun b j => decide (b = 57 ∧ (j = 9 ∨ j = 10 ∨ j = 11))) (de_ps (cm_wI A 65 m (-2)) nf (-1) (Int32.ofNat m) 0 0) (de_nx (de_ps (cm_wI A 65 m (-2)) nf (-1) (Int32.ofNat m) 0 0) (A.1 66 m) (A.1 67 m)) := cf_tr (cf_wI (decide_eq_true (by omega))) (cf_tr (cf_wI (decide_eq_true (by omega))) (cf_wI (decide_eq_true (by omega))))
  have hS3 : cf_W (fun b j => decide (b = 83 ∧ (j = 63 ∨ j = 64 ∨ j = 65))) (me_ws (cm_wI S 117 (dm_mc m) 1) nf 0 (Int32.ofNat (dm_mc m)) (-1)) (me_ev (me_ws (cm_wI S 117 (dm_mc m) 1) nf 0 (Int32.ofNat (dm_mc m)) (-1)) (S.1 114 (dm_mc m)) (S.1 115 (dm_mc m))) := cf_tr (cf_wI (decide_eq_true (by omega))) (cf_tr (cf_wI (decide_eq_true (by omega))) (cf_wI (decide_eq_true (by omega))))
  have p3 := dm_P_cf hA3 hS3 (fun b j hb => decide_eq_false (by omega)) (fun b j hb => decide_eq_false (by omega)) p2
  refine ⟨p3, ?_, g, q, t, t2, ?_, ?_, ?_, ?_, ?_, ?_⟩
  · unfold de_nx; simp [cp_wI1]
  · unfold de_nx; simp [cp_wI1, n1]
  · refine dm_n_cf hA3 (fun b j q1 q2 => decide_eq_false (by omega)) hS3 (fun b x q1 q2 q3 q4 => decide_eq_false (by omega)) (dm_n_cf de_ps_cf (fun b j q1 q2 => decide_eq_false (by omega)) me_ws_cf (fun b x q1 q2 q3 q4 => decide_eq_false (by omega)) (dm_n_cf hA1 (fun b j q1 q2 => decide_eq_false (by omega)) hS1 (fun b x q1 q2 q3 q4 => decide_eq_false (by omega)) n2))
  · unfold de_nx; simp only [cp_wI1]; simp only [and_self, if_true]; exact n4
  · unfold me_ev; simp [cp_wI1, n3]
  · unfold me_ev de_nx; simp [cp_wI1, n5]
  · unfold me_ev; simp [cp_wI1]
/-- a cell with a value -/
theorem dm_en3 (h : dm_P A S V G nc ne nf nv st lim wc sh dd) (hm : m < nc) (hm8 : ¬ m = 8) (h2 : ¬ A.1 65 m = -2) (h1 : ¬ A.1 65 m = -1) (h0 : ¬ A.1 65 m = 0) (hnv : nv ≤ 8192) : ¬ S.1 116 (dm_mc m) = -1 ∧ dm_P (de_gv A (A.1 65 m) (A.1 66 m) (A.1 67 m) (A.2 68 m)) (me_gv S (S.1 116 (dm_mc m))) V G nc ne nf nv st lim wc sh dd ∧ dm_mg (de_gv A (A.1 65 m) (A.1 66 m) (A.1 67 m) (A.2 68 m)) (me_gv S (S.1 116 (dm_mc m))) V G ne nc nv := by
  have hA : cf_W (fun b j => decide (65 ≤ b ∧ b ≤ 68 ∧ j = 8 ∨ b = 57 ∧ j = 9)) A (de_gv A (A.1 65 m) (A.1 66 m) (A.1 67 m) (A.2 68 m)) := cf_tr (cf_wI (decide_eq_true (by omega))) (cf_mono de_fi_cf (fun b j h => decide_eq_true (by have h := of_decide_eq_true h; omega)))
  have hS : cf_W (fun b j => decide (b = 83 ∧ (j = 63 ∨ j = 65))) S (me_gv S (S.1 116 (dm_mc m))) := cf_tr (cf_wI (decide_eq_true (by omega))) (cf_wI (decide_eq_true (by omega)))
  have p1 := dm_P_cf hA hS (fun b j hb => decide_eq_false (by omega)) (fun b j hb => decide_eq_false (by omega)) h
  rcases h.1.2.2.2.2.2.2.2.2.2.2.1 m hm hm8 with ⟨c1, _⟩ | ⟨c1, _⟩ | ⟨c1, _⟩ | ⟨v, hv, c1, c2, c3⟩
  · exact absurd c1 h0
  · exact absurd c1 h1
  · exact absurd c1 h2
  · obtain ⟨u1, u2, u3, u4⟩ := de_fi_at (A := cm_wI A 57 9 0) (i := 8) (st := A.1 65 m) (f := A.1 66 m) (s := A.1 67 m) (num := A.2 68 m)
    have oA : dm_fA (fun b j => decide (65 ≤ b ∧ b ≤ 68 ∧ j = 8 ∨ b = 57 ∧ j = 9)) nc ne nf := fun b j hb => decide_eq_false (by omega)
    have oS : dm_fS (fun b j => decide (b = 83 ∧ (j = 63 ∨ j = 65))) nc ne nf nv := fun b j hb => decide_eq_false (by omega)
    refine ⟨by rw [c1]; exact cp_m1 (by omega), p1, ?_, ?_, v, hv, ?_, ?_⟩
    · show (de_fi (cm_wI A 57 9 0) 8 _ _ _ _).1 57 9 = 0
      rw [(de_fi_cf 57 9 (decide_eq_false (by omega))).1, cp_wI1, if_pos ⟨rfl, rfl⟩]
    · unfold me_gv; simp [cp_wI1]
    · unfold me_gv; simp [cp_wI1, c1]
    · have hv2 := dm_vl_c2 hA hS oA oS (fun _ _ => rfl) (Nat.le_refl ne) (Nat.le_refl nc) hv c2
      show dm_vl (de_gv A (A.1 65 m) (A.1 66 m) (A.1 67 m) (A.2 68 m)) _ V G ne nc ((de_fi (cm_wI A 57 9 0) 8 (A.1 65 m) (A.1 66 m) (A.1 67 m) (A.2 68 m)).1 65 8) ((de_fi (cm_wI A 57 9 0) 8 (A.1 65 m) (A.1 66 m) (A.1 67 m) (A.2 68 m)).1 66 8) ((de_fi (cm_wI A 57 9 0) 8 (A.1 65 m) (A.1 66 m) (A.1 67 m) (A.2 68 m)).1 67 8) ((de_fi (cm_wI A 57 9 0) 8 (A.1 65 m) (A.1 66 m) (A.1 67 m) (A.2 68 m)).2 68 8) v
      rw [u1, u2, u3, u4]
      exact hv2
end DMa23
