/-! ## a24 the run machine: what a turn leaves, a cell asked for -/
def dm_fw (A : cm_S) : Nat → Nat
  | 0 => 0
  | n + 1 => dm_fw A n + (if A.1 73 n = 9 then 2 else 1)
theorem dm_fw_cf {A A2 : cm_S} : ∀ n, (∀ i, i < n → A2.1 73 i = A.1 73 i) → dm_fw A2 n = dm_fw A n
  | 0, _ => rfl
  | n + 1, h => by
    show dm_fw A2 n + (if A2.1 73 n = 9 then 2 else 1) = dm_fw A n + (if A.1 73 n = 9 then 2 else 1)
    rw [dm_fw_cf n (fun i hi => h i (by omega)), h n (by omega)]
theorem dm_fw_le {A : cm_S} : ∀ n, dm_fw A n ≤ 2 * n
  | 0 => Nat.le_refl _
  | n + 1 => by
    have := dm_fw_le (A := A) n
    show dm_fw A n + (if A.1 73 n = 9 then 2 else 1) ≤ _
    split <;> omega
def dw_WA (b j : Nat) : Bool := decide (b = 57 ∧ (j = 6 ∨ j = 7 ∨ 9 ≤ j) ∨ 64 ≤ b ∧ b ≤ 79)
def dw_WS (b j : Nat) : Bool := decide (b = 83 ∧ (j = 40 ∨ j = 42 ∨ 44 ≤ j ∧ j ≤ 74) ∨ 114 ≤ b ∧ b ≤ 129)
def dw_ct (A : cm_S) (nc ne nf nv b1 b2 b3 b4 b5 : Nat) : Prop := nc + dm_nb A nf ≤ b1 ∧ ne + 2 * dm_nb A nf ≤ b2 ∧ nv + dm_nb A nf ≤ b3 ∧ nf ≤ b4 ∧ dm_fw A nf ≤ b5
def dw_on (A S : cm_S) : Prop := A.1 57 6 = -2 ∧ S.1 83 40 = -1
def dw_md (A S : cm_S) (V : Nat → ct_T) (G : dm_Gs) (nc ne nv : Nat) : Prop := (dw_on A S ∧ (dm_me A S V G ne ∨ dm_mg A S V G ne nc nv)) ∨ ∃ o, (o = 3 ∨ o = 4) ∧ A.1 57 6 = Int32.ofNat o ∧ S.1 83 40 = Int32.ofNat o
def dw_go (A S : cm_S) (V : Nat → ct_T) (st lim wc sh dd b1 b2 b3 b4 b5 : Nat) : Prop := ∃ (G : dm_Gs) (nc ne nf nv : Nat), dm_P A S V G nc ne nf nv st lim wc sh dd ∧ dw_ct A nc ne nf nv b1 b2 b3 b4 b5 ∧ dw_md A S V G nc ne nv
def dw_c (y n : Nat) (Lc : am_L) (A A1 : cm_S) : Prop := ∀ (L : Nat) (xs : Nat → Int32) (d : Nat) (K : cm_K), K (.inl none) A1 0 → cm_At (am_XX L xs) (d + n) y 0 Lc [] A K
def dw_T (PA PS : cm_S → Prop) (A S : cm_S) (V : Nat → ct_T) (st lim wc sh dd b1 b2 b3 b4 b5 : Nat) : Prop := ∃ A1 S1, PA A1 ∧ PS S1 ∧ cf_W dw_WA A A1 ∧ cf_W dw_WS S S1 ∧ dw_go A1 S1 V st lim wc sh dd b1 b2 b3 b4 b5
theorem dw_nx_cf {A : cm_S} {q s : Int32} : cf_W (fun b j => decide (b = 57 ∧ (j = 9 ∨ j = 10 ∨ j = 11))) A (de_nx A q s) := cf_tr (cf_wI (decide_eq_true (by omega))) (cf_tr (cf_wI (decide_eq_true (by omega))) (cf_wI (decide_eq_true (by omega))))
theorem dw_ev_cf {S : cm_S} {q s : Int32} : cf_W (fun b j => decide (b = 83 ∧ (j = 63 ∨ j = 64 ∨ j = 65))) S (me_ev S q s) := cf_tr (cf_wI (decide_eq_true (by omega))) (cf_tr (cf_wI (decide_eq_true (by omega))) (cf_wI (decide_eq_true (by omega))))
theorem dw_gv_cf {A : cm_S} {st f s : Int32} {num : Int64} : cf_W (fun b j => decide (65 ≤ b ∧ b ≤ 68 ∧ j = 8 ∨ b = 57 ∧ j = 9)) A (de_gv A st f s num) := cf_tr (cf_wI (decide_eq_true (by omega))) (cf_mono de_fi_cf (fun b j h => decide_eq_true (by have h := of_decide_eq_true h; omega)))
theorem dw_gs_cf {S : cm_S} {v : Int32} : cf_W (fun b j => decide (b = 83 ∧ (j = 63 ∨ j = 65))) S (me_gv S v) := cf_tr (cf_wI (decide_eq_true (by omega))) (cf_wI (decide_eq_true (by omega)))
section DMa24
variable {WA WS : Nat → Nat → Bool} {A A2 S S2 : cm_S} {V : Nat → ct_T} {G : dm_Gs} {nc ne nf nv st lim wc sh dd b1 b2 b3 b4 b5 c1 c2 c3 c4 c5 m : Nat}
theorem dw_ct_cf (hA : ∀ i, i < nf → A2.1 73 i = A.1 73 i) (h : dw_ct A nc ne nf nv b1 b2 b3 b4 b5) : dw_ct A2 nc ne nf nv b1 b2 b3 b4 b5 := by
  unfold dw_ct
  rw [dm_nb_cf nf hA, dm_fw_cf nf hA]
  exact h
theorem dw_ct_mo (h : dw_ct A nc ne nf nv b1 b2 b3 b4 b5) (h1 : b1 ≤ c1) (h2 : b2 ≤ c2) (h3 : b3 ≤ c3) (h4 : b4 ≤ c4) (h5 : b5 ≤ c5) : dw_ct A nc ne nf nv c1 c2 c3 c4 c5 := by
  obtain ⟨g1, g2, g3, g4, g5⟩ := h
  exact ⟨by omega, by omega, by omega, by omega, by omega⟩
theorem dw_go_mo (h : dw_go A S V st lim wc sh dd b1 b2 b3 b4 b5) (h1 : b1 ≤ c1) (h2 : b2 ≤ c2) (h3 : b3 ≤ c3) (h4 : b4 ≤ c4) (h5 : b5 ≤ c5) : dw_go A S V st lim wc sh dd c1 c2 c3 c4 c5 := by
  obtain ⟨G, nc, ne, nf, nv, g1, g2, g3⟩ := h
  exact ⟨G, nc, ne, nf, nv, g1, dw_ct_mo g2 h1 h2 h3 h4 h5, g3⟩
theorem dw_ct_of : dw_ct A nc ne nf nv (nc + dm_nb A nf) (ne + 2 * dm_nb A nf) (nv + dm_nb A nf) nf (dm_fw A nf) := ⟨Nat.le_refl _, Nat.le_refl _, Nat.le_refl _, Nat.le_refl _, Nat.le_refl _⟩
/-- frames pushed -/
theorem dw_ps {k p s : Int32} {num : Int64} : dm_nb (de_ps A nf k p s num) (nf + 1) = dm_nb A nf + (if k = -1 then 0 else 1) ∧ dm_fw (de_ps A nf k p s num) (nf + 1) = dm_fw A nf + (if k = 9 then 2 else 1) := by
  have h1 : ∀ i, i < nf → (de_ps A nf k p s num).1 73 i = A.1 73 i := fun i hi => (de_ps_cf 73 i (decide_eq_false (by omega))).1
  have h2 := (de_ps_at (A := A) (nf := nf) (k := k) (p := p) (s := s) (num := num)).1
  constructor
  · show dm_nb (de_ps A nf k p s num) nf + (if (de_ps A nf k p s num).1 73 nf = -1 then 0 else 1) = _
    rw [dm_nb_cf nf h1, h2]
  · show dm_fw (de_ps A nf k p s num) nf + (if (de_ps A nf k p s num).1 73 nf = 9 then 2 else 1) = _
    rw [dm_fw_cf nf h1, h2]
/-- a run that has come to its end -/
theorem dw_stop {o : Nat} (ho : o = 3 ∨ o = 4) (h : dm_P A S V G nc ne nf nv st lim wc sh dd) (hc : dw_ct A nc ne nf nv b1 b2 b3 b4 b5) (hA : cf_W (fun b j => decide (b = 57 ∧ j = 6)) A A2) (hS : cf_W (fun b j => decide (b = 83 ∧ (j = 40 ∨ j = 63 ∨ j = 65))) S S2) (h6 : A2.1 57 6 = Int32.ofNat o) (h40 : S2.1 83 40 = Int32.ofNat o) : dw_go A2 S2 V st lim wc sh dd b1 b2 b3 b4 b5 :=
  ⟨G, nc, ne, nf, nv, dm_P_cf hA hS (fun b j hb => decide_eq_false (by omega)) (fun b j hb => decide_eq_false (by omega)) h, dw_ct_cf (fun i hi => (hA 73 i (decide_eq_false (by omega))).1) hc, Or.inr ⟨o, ho, h6, h40⟩⟩
/-- a node to be evaluated next -/
theorem dw_evn (h : dm_P A S V G nc ne nf nv st lim wc sh dd) (hon : dw_on A S) {g q : Nat} {t t2 : ct_T} {s : Int32} (hn : dm_n A S V g q t t2) (hs : dm_sx G ne g t s) : dm_P (de_nx A (Int32.ofNat q) s) (me_ev S (Int32.ofNat (2400 + q)) s) V G nc ne nf nv st lim wc sh dd ∧ dw_md (de_nx A (Int32.ofNat q) s) (me_ev S (Int32.ofNat (2400 + q)) s) V G nc ne nv := by
  refine ⟨dm_P_cf dw_nx_cf dw_ev_cf (fun b j hb => decide_eq_false (by omega)) (fun b j hb => decide_eq_false (by omega)) h, Or.inl ⟨⟨(dw_nx_cf 57 6 (decide_eq_false (by omega))).1.trans hon.1, (dw_ev_cf 83 40 (decide_eq_false (by omega))).1.trans hon.2⟩, Or.inl ⟨?_, g, q, t, t2, ?_, ?_, ?_, ?_, ?_, ?_⟩⟩⟩
  · unfold de_nx; simp [cp_wI1]
  · unfold de_nx; simp [cp_wI1]
  · exact dm_n_cf dw_nx_cf (fun b j q1 q2 => decide_eq_false (by omega)) dw_ev_cf (fun b x q1 q2 q3 q4 => decide_eq_false (by omega)) hn
  · unfold de_nx; simp only [cp_wI1]; simp only [and_self, if_true]; exact hs
  · unfold me_ev; simp [cp_wI1]
  · unfold me_ev de_nx; simp [cp_wI1]
  · unfold me_ev; simp [cp_wI1]
/-- a value is given -/
theorem dw_giv (h : dm_P A S V G nc ne nf nv st lim wc sh dd) (hon : dw_on A S) {kd f s t o1 o2 : Int32} {num n2 : Int64} (hv : dm_vl A (me_vl S nv t n2 o1 o2) V G ne nc kd f s num nv) : dm_P (de_gv A kd f s num) (me_gv (me_vl S nv t n2 o1 o2) (Int32.ofNat nv)) V G nc ne nf (nv + 1) st lim wc sh dd ∧ dw_md (de_gv A kd f s num) (me_gv (me_vl S nv t n2 o1 o2) (Int32.ofNat nv)) V G nc ne (nv + 1) := by
  obtain ⟨u1, u2, u3, u4⟩ := de_fi_at (A := cm_wI A 57 9 0) (i := 8) (st := kd) (f := f) (s := s) (num := num)
  refine ⟨dm_P_cf dw_gv_cf dw_gs_cf (fun b j hb => decide_eq_false (by omega)) (fun b j hb => decide_eq_false (by omega)) (dm_P_vl h), Or.inl ⟨⟨(dw_gv_cf 57 6 (decide_eq_false (by omega))).1.trans hon.1, (dw_gs_cf 83 40 (decide_eq_false (by omega))).1.trans ((me_vl_cf 83 40 (decide_eq_false (by omega))).1.trans hon.2)⟩, Or.inr ⟨?_, ?_, nv, Nat.lt_succ_self _, ?_, ?_⟩⟩⟩
  · show (de_fi (cm_wI A 57 9 0) 8 _ _ _ _).1 57 9 = 0
    rw [(de_fi_cf 57 9 (decide_eq_false (by omega))).1, cp_wI1, if_pos ⟨rfl, rfl⟩]
  · unfold me_gv; simp [cp_wI1]
  · unfold me_gv; simp [cp_wI1]
  · have hv2 := dm_vl_c2 (nv := nv + 1) (nf := 0) (n0 := 0) (A2 := de_gv A kd f s num) (S2 := me_gv (me_vl S nv t n2 o1 o2) (Int32.ofNat nv)) dw_gv_cf dw_gs_cf (fun b j hb => decide_eq_false (by omega)) (fun b j hb => decide_eq_false (by omega)) (fun _ _ => rfl) (Nat.le_refl ne) (Nat.le_refl nc) (Nat.lt_succ_self nv) hv
    show dm_vl (de_gv A kd f s num) _ V G ne nc ((de_fi (cm_wI A 57 9 0) 8 kd f s num).1 65 8) ((de_fi (cm_wI A 57 9 0) 8 kd f s num).1 66 8) ((de_fi (cm_wI A 57 9 0) 8 kd f s num).1 67 8) ((de_fi (cm_wI A 57 9 0) 8 kd f s num).2 68 8) nv
    rw [u1, u2, u3, u4]
    exact hv2
/-- a cell is asked for -/
theorem dw_asks {c : Int32} (h : dm_P A S V G nc ne nf nv st lim wc sh dd) (hon : dw_on A S) (hnc : nc ≤ 8009) (hnf : nf < 4064) (hnv : nv ≤ 8192) (hc : c = -1 ∨ ∃ m, m < nc ∧ ¬ m = 8 ∧ c = Int32.ofNat m ∧ ¬ A.1 65 m = 0) :
    dw_T (dw_c 66 5 [some (.ref 57), some (.int c)] A) (dw_c 256 2 [some (.ref 83), some (.int (dm_ce c))] S) A S V st lim wc sh dd (nc + dm_nb A nf) (ne + 2 * dm_nb A nf) (nv + dm_nb A nf) (nf + 1) (dm_fw A nf + 1) := by
  have ct0 : dw_ct A nc ne nf nv (nc + dm_nb A nf) (ne + 2 * dm_nb A nf) (nv + dm_nb A nf) (nf + 1) (dm_fw A nf + 1) := dw_ct_mo dw_ct_of (Nat.le_refl _) (Nat.le_refl _) (Nat.le_refl _) (Nat.le_succ _) (Nat.le_succ _)
  rcases hc with rfl | ⟨m, hm, hm8, rfl, h0⟩
  · rw [dm_ce_m1]
    exact ⟨cm_wI A 57 6 3, cm_wI S 83 40 3, fun L xs d K k => cp_66n k, fun L xs d K k => cp_256n k, cf_wI (decide_eq_true (by omega)), cf_wI (decide_eq_true (by omega)), dw_stop (o := 3) (Or.inl rfl) h ct0 (cf_wI (decide_eq_true (by omega))) (cf_wI (decide_eq_true (by omega))) (by rw [cp_wI1, if_pos ⟨rfl, rfl⟩]; rfl) (by rw [cp_wI1, if_pos ⟨rfl, rfl⟩]; rfl)⟩
  have hk := dm_mc_lt hm hm8 h.1.2.1
  rw [dm_ce_at (by omega)]
  have k1 : dw_c 66 5 [some (.ref 57), some (.int (Int32.ofNat m))] A (de_en A nf m) := fun L xs d K k => cp_66 h.1.2.2.1 hnc h.1.2.2.2.2.2.2.1 hnf hm k
  have k2 : dw_c 256 2 [some (.ref 83), some (.int (Int32.ofNat (dm_mc m)))] S (me_as S nf (dm_mc m)) := fun L xs d K k => cp_256 h.1.2.2.2.2.2.2.2.1 (by omega) (by omega) k
  refine ⟨de_en A nf m, me_as S nf (dm_mc m), k1, k2, ?_⟩
  unfold de_en me_as
  by_cases h2 : A.1 65 m = -2
  · obtain ⟨s1, s2⟩ := dm_en1 h.1 hm hm8 h2
    rw [if_pos h2, if_pos s1, if_neg s2]
    exact ⟨cf_wI (decide_eq_true (by omega)), cf_wI (decide_eq_true (by omega)), dw_stop (o := 4) (Or.inr rfl) h ct0 (cf_wI (decide_eq_true (by omega))) (cf_wI (decide_eq_true (by omega))) (by rw [cp_wI1, if_pos ⟨rfl, rfl⟩]; rfl) (by rw [cp_wI1, if_pos ⟨rfl, rfl⟩]; rfl)⟩
  rw [if_neg h2]
  by_cases h1 : A.1 65 m = -1
  · obtain ⟨_, _, s1, s2⟩ := dm_en2n h.1 hm hm8 h1
    rw [if_pos h1, if_pos s1, if_pos s2]
    obtain ⟨p1, p2⟩ := dm_en2 h hnc hm hm8 h1
    have fA : cf_W (fun b j => decide (b = 57 ∧ 9 ≤ j ∨ 65 ≤ b ∧ b ≤ 68 ∨ 72 ≤ b ∧ b ≤ 76)) A (de_nx (de_ps (cm_wI A 65 m (-2)) nf (-1) (Int32.ofNat m) 0 0) (A.1 66 m) (A.1 67 m)) := cf_tr (cf_wI (decide_eq_true (by omega))) (cf_tr (cf_mono de_ps_cf (fun b j h => decide_eq_true (by have h := of_decide_eq_true h; omega))) (cf_mono dw_nx_cf (fun b j h => decide_eq_true (by have h := of_decide_eq_true h; omega))))
    have fS : cf_W (fun b j => decide (b = 83 ∧ 44 ≤ j ∧ j ≤ 74 ∨ 114 ≤ b ∧ b ≤ 129)) S (me_ev (me_ws (cm_wI S 117 (dm_mc m) 1) nf 0 (Int32.ofNat (dm_mc m)) (-1)) (S.1 114 (dm_mc m)) (S.1 115 (dm_mc m))) := cf_tr (cf_wI (decide_eq_true (by omega))) (cf_tr (cf_mono me_ws_cf (fun b j h => decide_eq_true (by have h := of_decide_eq_true h; omega))) (cf_mono dw_ev_cf (fun b j h => decide_eq_true (by have h := of_decide_eq_true h; omega))))
    refine ⟨cf_mono fA (fun b j h => decide_eq_true (by have h := of_decide_eq_true h; omega)), cf_mono fS (fun b j h => decide_eq_true (by have h := of_decide_eq_true h; omega)), G, nc, ne, nf + 1, nv, p1, ?_, Or.inl ⟨⟨(fA 57 6 (decide_eq_false (by omega))).1.trans hon.1, (fS 83 40 (decide_eq_false (by omega))).1.trans hon.2⟩, Or.inl p2⟩⟩
    obtain ⟨n1, n2⟩ := dw_ps (A := cm_wI A 65 m (-2)) (nf := nf) (k := -1) (p := Int32.ofNat m) (s := 0) (num := 0)
    rw [if_pos rfl, dm_nb_cf (A := A) nf (fun i _ => by rw [cp_wI1, if_neg (by omega)])] at n1
    rw [if_neg (by decide), dm_fw_cf (A := A) nf (fun i _ => by rw [cp_wI1, if_neg (by omega)])] at n2
    refine dw_ct_cf (A := de_ps (cm_wI A 65 m (-2)) nf (-1) (Int32.ofNat m) 0 0) (fun i _ => (dw_nx_cf 73 i (decide_eq_false (by omega))).1) ?_
    unfold dw_ct
    rw [n1, n2]
    exact ⟨by omega, by omega, by omega, by omega, by omega⟩
  rw [if_neg h1, if_neg h0]
  obtain ⟨s1, p1, p2⟩ := dm_en3 h hm hm8 h2 h1 h0 hnv
  rw [if_neg s1]
  refine ⟨cf_mono dw_gv_cf (fun b j h => decide_eq_true (by have h := of_decide_eq_true h; omega)), cf_mono dw_gs_cf (fun b j h => decide_eq_true (by have h := of_decide_eq_true h; omega)), G, nc, ne, nf, nv, p1, dw_ct_cf (fun i _ => (dw_gv_cf 73 i (decide_eq_false (by omega))).1) ct0, Or.inl ⟨⟨(dw_gv_cf 57 6 (decide_eq_false (by omega))).1.trans hon.1, (dw_gs_cf 83 40 (decide_eq_false (by omega))).1.trans hon.2⟩, Or.inr p2⟩⟩
end DMa24
