/-! ## a19 the run machine: cells, values, frames on both sides -/
def dm_vl (A S : cm_S) (V : Nat → ct_T) (G : dm_Gs) (ne nc : Nat) (st f s : Int32) (num : Int64) (v : Nat) : Prop :=
  (st = 1 ∧ S.1 121 v = 0 ∧ S.2 122 v = num) ∨
  (st = 4 ∧ S.1 121 v = 1 ∧ ∃ g q e a b c t2, f = Int32.ofNat q ∧ dm_n A S V g q (ct_nd e a b c) t2 ∧ e.1 = 4 ∧ S.1 123 v = Int32.ofNat (2400 + q) ∧ S.1 124 v = s ∧ dm_sx G ne g (ct_nd e a b c) s) ∨
  (st = 10 ∧ S.1 121 v = 2 ∧ S.2 122 v = 0) ∨
  (st = 11 ∧ S.1 121 v = 2 ∧ S.2 122 v = 1 ∧ S.1 123 v = dm_ce f ∧ S.1 124 v = dm_ce s ∧ dm_cr nc f ∧ dm_cr nc s)
def dm_cl (A S : cm_S) (V : Nat → ct_T) (G : dm_Gs) (ne nc nv m : Nat) : Prop :=
  (A.1 65 m = 0 ∧ m < 8 ∧ S.1 114 (dm_mc m) = -1 ∧ S.1 116 (dm_mc m) = -1 ∧ S.1 117 (dm_mc m) = 0) ∨
  (A.1 65 m = -1 ∧ (∃ g q t t2, A.1 66 m = Int32.ofNat q ∧ dm_n A S V g q t t2 ∧ S.1 114 (dm_mc m) = Int32.ofNat (2400 + q) ∧ dm_sx G ne g t (A.1 67 m)) ∧ S.1 115 (dm_mc m) = A.1 67 m ∧ S.1 116 (dm_mc m) = -1 ∧ S.1 117 (dm_mc m) = 0) ∨
  (A.1 65 m = -2 ∧ S.1 116 (dm_mc m) = -1 ∧ S.1 117 (dm_mc m) = 1 ∧ (m < 8 → ¬ S.1 114 (dm_mc m) = -1)) ∨
  ∃ v, v < nv ∧ S.1 116 (dm_mc m) = Int32.ofNat v ∧ dm_vl A S V G ne nc (A.1 65 m) (A.1 66 m) (A.1 67 m) (A.2 68 m) v ∧ (m < 8 → ¬ S.1 114 (dm_mc m) = -1)
def dm_fk (k : Int32) (m : Int32) : Prop := k = 5 ∧ m = 1 ∨ k = 8 ∧ m = 2 ∨ k = 9 ∧ m = 3 ∨ k = 12 ∧ m = 5 ∨ k = 13 ∧ m = 6
def dm_fr (A S : cm_S) (V : Nat → ct_T) (G : dm_Gs) (ne nc nv i : Nat) : Prop :=
  (A.1 73 i = -1 ∧ S.1 125 i = 0 ∧ ∃ m, m < nc ∧ ¬ m = 8 ∧ A.1 74 i = Int32.ofNat m ∧ S.1 126 i = Int32.ofNat (dm_mc m) ∧ (m < 8 → ¬ S.1 114 (dm_mc m) = -1)) ∨
  (∃ g q e a b c t2, A.1 74 i = Int32.ofNat q ∧ dm_n A S V g q (ct_nd e a b c) t2 ∧ S.1 126 i = Int32.ofNat (2400 + q) ∧
    ((A.1 73 i = e.1 ∧ dm_fk e.1 (S.1 125 i) ∧ dm_sx G ne g (ct_nd e a b c) (A.1 75 i) ∧ S.1 127 i = A.1 75 i) ∨
     (A.1 73 i = -2 ∧ e.1 = 9 ∧ S.1 125 i = 4 ∧ ∃ v, v < nv ∧ S.1 127 i = Int32.ofNat v ∧ (A.1 75 i = 1 ↔ S.1 121 v = 0) ∧ (A.1 75 i = 1 → A.2 76 i = S.2 122 v))))
/-- what must not be written -/
def dm_fA (W : Nat → Nat → Bool) (nc ne nf : Nat) : Prop := ∀ b j, (59 ≤ b ∧ b ≤ 63 ∨ 65 ≤ b ∧ b ≤ 68 ∧ j < nc ∧ ¬ j = 8 ∨ 69 ≤ b ∧ b ≤ 71 ∧ j < ne ∨ 73 ≤ b ∧ b ≤ 76 ∧ j < nf) → W b j = false
def dm_fS (W : Nat → Nat → Bool) (nc ne nf nv : Nat) : Prop := ∀ b j, (92 ≤ b ∧ b ≤ 98 ∧ 2400 ≤ j ∧ j < 3600 ∨ 114 ≤ b ∧ b ≤ 117 ∧ j < nc - 1 ∨ 118 ≤ b ∧ b ≤ 120 ∧ j < ne ∨ 121 ≤ b ∧ b ≤ 124 ∧ j < nv ∨ 125 ≤ b ∧ b ≤ 127 ∧ j < nf) → W b j = false
theorem dm_mc_lt {m nc : Nat} (h : m < nc) (h8 : ¬ m = 8) (h9 : 9 ≤ nc) : dm_mc m < nc - 1 := by
  unfold dm_mc
  split <;> omega
section DMa19
variable {WA WS : Nat → Nat → Bool} {A A2 S S2 : cm_S} {V : Nat → ct_T} {G G2 : dm_Gs} {nc ne nf nv nc2 ne2 nv2 n0 : Nat}
theorem dm_n_c2 (hA : cf_W WA A A2) (hS : cf_W WS S S2) (oA : dm_fA WA n0 ne nf) (oS : dm_fS WS n0 ne nf nv) {g q : Nat} {t t2 : ct_T} (h : dm_n A S V g q t t2) : dm_n A2 S2 V g q t t2 :=
  dm_n_cf hA (fun b j q1 q2 => oA b j (by omega)) hS (fun b x q1 q2 q3 q4 => oS b x (by omega)) h
theorem dm_vl_c2 (hA : cf_W WA A A2) (hS : cf_W WS S S2) (oA : dm_fA WA n0 ne nf) (oS : dm_fS WS n0 ne nf nv) (hG : ∀ s, s < ne → G2 s = G s) (h1 : ne ≤ ne2) (h2 : nc ≤ nc2) {st f s : Int32} {num : Int64} {v : Nat} (hv : v < nv) (h : dm_vl A S V G ne nc st f s num v) : dm_vl A2 S2 V G2 ne2 nc2 st f s num v := by
  have e1 := hS 121 v (oS _ _ (by omega))
  have e2 := hS 122 v (oS _ _ (by omega))
  have e3 := hS 123 v (oS _ _ (by omega))
  have e4 := hS 124 v (oS _ _ (by omega))
  rcases h with ⟨h3, h4, h5⟩ | ⟨h3, h4, g, q, e, a, b, c, t2, h5, h6, h7, h8, h9, h10⟩ | ⟨h3, h4, h5⟩ | ⟨h3, h4, h5, h6, h7, h8, h9⟩
  · exact Or.inl ⟨h3, e1.1.trans h4, e2.2.trans h5⟩
  · exact Or.inr (Or.inl ⟨h3, e1.1.trans h4, g, q, e, a, b, c, t2, h5, dm_n_c2 hA hS oA oS h6, h7, e3.1.trans h8, e4.1.trans h9, dm_sx_mo h10 h1 hG⟩)
  · exact Or.inr (Or.inr (Or.inl ⟨h3, e1.1.trans h4, e2.2.trans h5⟩))
  · exact Or.inr (Or.inr (Or.inr ⟨h3, e1.1.trans h4, e2.2.trans h5, e3.1.trans h6, e4.1.trans h7, dm_cr_mo h8 h2, dm_cr_mo h9 h2⟩))
theorem dm_cl_c2 (hA : cf_W WA A A2) (hS : cf_W WS S S2) (oA : dm_fA WA nc ne nf) (oS : dm_fS WS nc ne nf nv) (hG : ∀ s, s < ne → G2 s = G s) (h1 : ne ≤ ne2) (h2 : nc ≤ nc2) (h3 : nv ≤ nv2) (h9 : 9 ≤ nc) {m : Nat} (hm : m < nc) (hm8 : ¬ m = 8) (h : dm_cl A S V G ne nc nv m) : dm_cl A2 S2 V G2 ne2 nc2 nv2 m := by
  have hk := dm_mc_lt hm hm8 h9
  have a1 := hA 65 m (oA _ _ (by omega))
  have a2 := hA 66 m (oA _ _ (by omega))
  have a3 := hA 67 m (oA _ _ (by omega))
  have a4 := hA 68 m (oA _ _ (by omega))
  have s1 := hS 114 (dm_mc m) (oS _ _ (by omega))
  have s2 := hS 115 (dm_mc m) (oS _ _ (by omega))
  have s3 := hS 116 (dm_mc m) (oS _ _ (by omega))
  have s4 := hS 117 (dm_mc m) (oS _ _ (by omega))
  unfold dm_cl at h ⊢
  rw [a1.1, a2.1, a3.1, a4.2, s1.1, s2.1, s3.1, s4.1]
  rcases h with h | ⟨h4, ⟨g, q, t, t2, h5, h6, h7, h8⟩, h10⟩ | h | ⟨v, h4, h5, h6, h7⟩
  · exact Or.inl h
  · exact Or.inr (Or.inl ⟨h4, ⟨g, q, t, t2, h5, dm_n_c2 hA hS oA oS h6, h7, dm_sx_mo h8 h1 hG⟩, h10⟩)
  · exact Or.inr (Or.inr (Or.inl h))
  · exact Or.inr (Or.inr (Or.inr ⟨v, by omega, h5, dm_vl_c2 hA hS oA oS hG h1 h2 h4 h6, h7⟩))
theorem dm_fr_c3 (hA : cf_W WA A A2) (hS : cf_W WS S S2) (oA : dm_fA WA n0 ne nf) (oS : dm_fS WS n0 ne nf nv) (h114 : ∀ j, j < nc - 1 → WS 114 j = false) (hG : ∀ s, s < ne → G2 s = G s) (h1 : ne ≤ ne2) (h2 : nc ≤ nc2) (h3 : nv ≤ nv2) (h9 : 9 ≤ nc) {i : Nat} (hi : i < nf) (h : dm_fr A S V G ne nc nv i) : dm_fr A2 S2 V G2 ne2 nc2 nv2 i := by
  have a1 := hA 73 i (oA _ _ (by omega))
  have a2 := hA 74 i (oA _ _ (by omega))
  have a3 := hA 75 i (oA _ _ (by omega))
  have a4 := hA 76 i (oA _ _ (by omega))
  have s1 := hS 125 i (oS _ _ (by omega))
  have s2 := hS 126 i (oS _ _ (by omega))
  have s3 := hS 127 i (oS _ _ (by omega))
  unfold dm_fr at h ⊢
  rw [a1.1, a2.1, a3.1, a4.2, s1.1, s2.1, s3.1]
  rcases h with ⟨h4, h5, m, h6, h7, h8, h10, h11⟩ | ⟨g, q, e, a, b, c, t2, h4, h5, h6, h7⟩
  · refine Or.inl ⟨h4, h5, m, by omega, h7, h8, h10, fun hm => ?_⟩
    rw [(hS 114 (dm_mc m) (h114 _ (dm_mc_lt h6 h7 h9))).1]
    exact h11 hm
  · refine Or.inr ⟨g, q, e, a, b, c, t2, h4, dm_n_c2 hA hS oA oS h5, h6, ?_⟩
    rcases h7 with ⟨h7, h8, h10, h11⟩ | ⟨h7, h8, h10, v, h11, h12, h13, h14⟩
    · exact Or.inl ⟨h7, h8, dm_sx_mo h10 h1 hG, h11⟩
    · refine Or.inr ⟨h7, h8, h10, v, by omega, h12, ?_, ?_⟩
      · rw [(hS 121 v (oS _ _ (by omega))).1]; exact h13
      · rw [(hS 122 v (oS _ _ (by omega))).2]; exact h14
theorem dm_fr_c2 (hA : cf_W WA A A2) (hS : cf_W WS S S2) (oA : dm_fA WA nc ne nf) (oS : dm_fS WS nc ne nf nv) (hG : ∀ s, s < ne → G2 s = G s) (h1 : ne ≤ ne2) (h2 : nc ≤ nc2) (h3 : nv ≤ nv2) (h9 : 9 ≤ nc) {i : Nat} (hi : i < nf) (h : dm_fr A S V G ne nc nv i) : dm_fr A2 S2 V G2 ne2 nc2 nv2 i := dm_fr_c3 hA hS oA oS (fun j hj => oS 114 j (by omega)) hG h1 h2 h3 h9 hi h
theorem dm_E_c2 (hA : cf_W WA A A2) (hS : cf_W WS S S2) (oA : dm_fA WA n0 ne nf) (oS : dm_fS WS n0 ne nf nv) (hG : ∀ s, s < ne → G2 s = G s) (h2 : nc ≤ nc2) (h : dm_E A S V G ne nc) {s : Nat} (hs : s < ne) : (dm_R V (G2 s).1 (A2.1 69 s) (S2.1 118 s) ∧ ∀ x, (G2 s).2 x → x = A2.1 69 s ∨ dm_bs G2 s (A2.1 71 s) x) ∧ S2.1 119 s = dm_ce (A2.1 70 s) ∧ dm_cr nc2 (A2.1 70 s) ∧ S2.1 120 s = A2.1 71 s ∧ dm_sc G2 s (G2 s).1 (A2.1 71 s) := by
  obtain ⟨e1, e2, e3, e4, e5⟩ := h s hs
  rw [(hA 69 s (oA _ _ (by omega))).1, (hA 70 s (oA _ _ (by omega))).1, (hA 71 s (oA _ _ (by omega))).1, (hS 118 s (oS _ _ (by omega))).1, (hS 119 s (oS _ _ (by omega))).1, (hS 120 s (oS _ _ (by omega))).1, hG s hs]
  exact ⟨⟨e1.1, fun x hx => (e1.2 x hx).imp id (fun hb => dm_bs_mo hb (Nat.le_refl _) (fun k hk => hG k (by omega)))⟩, e2, dm_cr_mo e3 h2, e4, dm_sc_mo e5 (Nat.le_refl _) (fun k hk => hG k (by omega))⟩
end DMa19
/-- cells, scopes, frames, values on both sides -/
def dm_M (A S : cm_S) (V : Nat → ct_T) (G : dm_Gs) (nc ne nf nv : Nat) : Prop := (∀ g, g < 8 → ct_bi (dm_R V g)) ∧ 9 ≤ nc ∧ A.1 64 4 = Int32.ofNat nc ∧ S.1 83 45 = Int32.ofNat (nc - 1) ∧ A.1 64 8 = Int32.ofNat ne ∧ S.1 83 50 = Int32.ofNat ne ∧ A.1 72 4 = Int32.ofNat nf ∧ S.1 83 59 = Int32.ofNat nf ∧ S.1 83 54 = Int32.ofNat nv ∧ dm_E A S V G ne nc ∧ (∀ m, m < nc → ¬ m = 8 → dm_cl A S V G ne nc nv m) ∧ ∀ i, i < nf → dm_fr A S V G ne nc nv i
/-- where nothing of these is written -/
theorem dm_M_cf {WA WS : Nat → Nat → Bool} {A A2 S S2 : cm_S} {V : Nat → ct_T} {G : dm_Gs} {nc ne nf nv : Nat} (hA : cf_W WA A A2) (hS : cf_W WS S S2) (oA : dm_fA WA nc ne nf) (oS : dm_fS WS nc ne nf nv) (c1 : WA 64 4 = false) (c2 : WA 64 8 = false) (c3 : WA 72 4 = false) (d1 : WS 83 45 = false) (d2 : WS 83 50 = false) (d3 : WS 83 59 = false) (d4 : WS 83 54 = false) (h : dm_M A S V G nc ne nf nv) : dm_M A2 S2 V G nc ne nf nv := by
  obtain ⟨h1, h2, h3, h4, h5, h6, h7, h8, h9, h10, h11, h12⟩ := h
  refine ⟨h1, h2, (hA _ _ c1).1.trans h3, (hS _ _ d1).1.trans h4, (hA _ _ c2).1.trans h5, (hS _ _ d2).1.trans h6, (hA _ _ c3).1.trans h7, (hS _ _ d3).1.trans h8, (hS _ _ d4).1.trans h9, fun s hs => dm_E_c2 hA hS oA oS (fun _ _ => rfl) (Nat.le_refl _) h10 hs, fun m hm hm8 => dm_cl_c2 hA hS oA oS (fun _ _ => rfl) (Nat.le_refl _) (Nat.le_refl _) (Nat.le_refl _) h2 hm hm8 (h11 m hm hm8), fun i hi => dm_fr_c2 hA hS oA oS (fun _ _ => rfl) (Nat.le_refl _) (Nat.le_refl _) (Nat.le_refl _) h2 hi (h12 i hi)⟩
/-- the ghost of a scope more -/
def dm_G2 (G : dm_Gs) (ne g : Nat) (x o : Int32) : dm_Gs := fun s => if s = ne then (g, fun y => y = x ∨ dm_bs G ne o y) else G s
theorem dm_G2_bs {G : dm_Gs} {ne g : Nat} {x o y : Int32} (h : ct_ga (dm_bs G ne o) x y) : dm_bs (dm_G2 G ne g x o) (ne + 1) (Int32.ofNat ne) y := by
  refine ⟨ne, Nat.lt_succ_self _, rfl, ?_⟩
  rw [show dm_G2 G ne g x o ne = (g, fun y => y = x ∨ dm_bs G ne o y) from if_pos rfl]
  exact h.elim Or.inr Or.inl
theorem dm_G2_sc {G : dm_Gs} {ne g : Nat} {x o : Int32} : dm_sc (dm_G2 G ne g x o) (ne + 1) g (Int32.ofNat ne) := by
  refine Or.inr ⟨ne, Nat.lt_succ_self _, rfl, ?_⟩
  rw [show dm_G2 G ne g x o ne = (g, fun y => y = x ∨ dm_bs G ne o y) from if_pos rfl]
theorem dm_G2_sx {G : dm_Gs} {ne g : Nat} {t : ct_T} {x o : Int32} (h : ct_wf t ∧ ct_lx (ct_ga (dm_bs G ne o) x) t) : dm_sx (dm_G2 G ne g x o) (ne + 1) g t (Int32.ofNat ne) :=
  ⟨dm_G2_sc, h.1, ct_lx_mono t h.1 _ _ (fun _ hy => dm_G2_bs hy) h.2⟩
theorem dm_G2_old {G : dm_Gs} {ne g : Nat} {x o : Int32} : ∀ s, s < ne → dm_G2 G ne g x o s = G s := fun s hs => if_neg (by omega)
/-! what the ops write -/
def de_fi (A : cm_S) (i : Nat) (st f s : Int32) (num : Int64) : cm_S := cm_wJ (cm_wI (cm_wI (cm_wI A 65 i st) 66 i f) 67 i s) 68 i num
def de_mk (A : cm_S) (nc : Nat) (q s : Int32) : cm_S := de_fi (cm_wI A 64 4 (Int32.ofNat (nc + 1))) nc (-1) q s 0
def me_cl (S : cm_S) (k : Nat) (q s : Int32) : cm_S := cm_wI (cm_wI (cm_wI (cm_wI (cm_wI S 114 k q) 115 k s) 116 k (-1)) 117 k 0) 83 45 (Int32.ofNat (k + 1))
def de_bd (A : cm_S) (ne : Nat) (x c o : Int32) : cm_S := cm_wI (cm_wI (cm_wI (cm_wI A 64 8 (Int32.ofNat (ne + 1))) 69 ne x) 70 ne c) 71 ne o
def me_bd (S : cm_S) (ne : Nat) (y c o : Int32) : cm_S := cm_wI (cm_wI (cm_wI (cm_wI S 118 ne y) 119 ne c) 120 ne o) 83 50 (Int32.ofNat (ne + 1))
def de_ps (A : cm_S) (nf : Nat) (k p s : Int32) (num : Int64) : cm_S := cm_wI (cm_wJ (cm_wI (cm_wI (cm_wI A 73 nf k) 74 nf p) 75 nf s) 76 nf num) 72 4 (Int32.ofNat (nf + 1))
def me_ws (S : cm_S) (nf : Nat) (k p s : Int32) : cm_S := cm_wI (cm_wI (cm_wI (cm_wI S 125 nf k) 126 nf p) 127 nf s) 83 59 (Int32.ofNat (nf + 1))
def me_vl (S : cm_S) (nv : Nat) (t : Int32) (num : Int64) (o1 o2 : Int32) : cm_S := cm_wI (cm_wI (cm_wI (cm_wJ (cm_wI S 121 nv t) 122 nv num) 123 nv o1) 124 nv o2) 83 54 (Int32.ofNat (nv + 1))
theorem de_fi_cf {A : cm_S} {i : Nat} {st f s : Int32} {num : Int64} : cf_W (fun b j => decide (65 ≤ b ∧ b ≤ 68 ∧ j = i)) A (de_fi A i st f s num) := cf_tr (cf_wI (decide_eq_true (by omega))) (cf_tr (cf_wI (decide_eq_true (by omega))) (cf_tr (cf_wI (decide_eq_true (by omega))) (cf_wJ (decide_eq_true (by omega)))))
theorem de_fi_at {A : cm_S} {i : Nat} {st f s : Int32} {num : Int64} : (de_fi A i st f s num).1 65 i = st ∧ (de_fi A i st f s num).1 66 i = f ∧ (de_fi A i st f s num).1 67 i = s ∧ (de_fi A i st f s num).2 68 i = num := by
  unfold de_fi
  simp [cp_wI1, cp_wI2, cp_wJ1, cp_wJ2]
theorem de_mk_cf {A : cm_S} {nc : Nat} {q s : Int32} : cf_W (fun b j => decide (65 ≤ b ∧ b ≤ 68 ∧ j = nc ∨ b = 64 ∧ j = 4)) A (de_mk A nc q s) := cf_tr (cf_wI (decide_eq_true (by omega))) (cf_mono de_fi_cf (fun b j h => decide_eq_true (by have h := of_decide_eq_true h; omega)))
theorem me_cl_cf {S : cm_S} {k : Nat} {q s : Int32} : cf_W (fun b j => decide (114 ≤ b ∧ b ≤ 117 ∧ j = k ∨ b = 83 ∧ j = 45)) S (me_cl S k q s) := cf_tr (cf_wI (decide_eq_true (by omega))) (cf_tr (cf_wI (decide_eq_true (by omega))) (cf_tr (cf_wI (decide_eq_true (by omega))) (cf_tr (cf_wI (decide_eq_true (by omega))) (cf_wI (decide_eq_true (by omega))))))
theorem me_cl_at {S : cm_S} {k : Nat} {q s : Int32} : (me_cl S k q s).1 114 k = q ∧ (me_cl S k q s).1 115 k = s ∧ (me_cl S k q s).1 116 k = -1 ∧ (me_cl S k q s).1 117 k = 0 ∧ (me_cl S k q s).1 83 45 = Int32.ofNat (k + 1) := by
  unfold me_cl
  simp [cp_wI1]
theorem de_bd_cf {A : cm_S} {ne : Nat} {x c o : Int32} : cf_W (fun b j => decide (69 ≤ b ∧ b ≤ 71 ∧ j = ne ∨ b = 64 ∧ j = 8)) A (de_bd A ne x c o) := cf_tr (cf_wI (decide_eq_true (by omega))) (cf_tr (cf_wI (decide_eq_true (by omega))) (cf_tr (cf_wI (decide_eq_true (by omega))) (cf_wI (decide_eq_true (by omega)))))
theorem de_bd_at {A : cm_S} {ne : Nat} {x c o : Int32} : (de_bd A ne x c o).1 69 ne = x ∧ (de_bd A ne x c o).1 70 ne = c ∧ (de_bd A ne x c o).1 71 ne = o ∧ (de_bd A ne x c o).1 64 8 = Int32.ofNat (ne + 1) := by
  unfold de_bd
  simp [cp_wI1]
theorem me_bd_cf {S : cm_S} {ne : Nat} {y c o : Int32} : cf_W (fun b j => decide (118 ≤ b ∧ b ≤ 120 ∧ j = ne ∨ b = 83 ∧ j = 50)) S (me_bd S ne y c o) := cf_tr (cf_wI (decide_eq_true (by omega))) (cf_tr (cf_wI (decide_eq_true (by omega))) (cf_tr (cf_wI (decide_eq_true (by omega))) (cf_wI (decide_eq_true (by omega)))))
theorem me_bd_at {S : cm_S} {ne : Nat} {y c o : Int32} : (me_bd S ne y c o).1 118 ne = y ∧ (me_bd S ne y c o).1 119 ne = c ∧ (me_bd S ne y c o).1 120 ne = o ∧ (me_bd S ne y c o).1 83 50 = Int32.ofNat (ne + 1) := by
  unfold me_bd
  simp [cp_wI1]
theorem de_ps_cf {A : cm_S} {nf : Nat} {k p s : Int32} {num : Int64} : cf_W (fun b j => decide (73 ≤ b ∧ b ≤ 76 ∧ j = nf ∨ b = 72 ∧ j = 4)) A (de_ps A nf k p s num) := cf_tr (cf_wI (decide_eq_true (by omega))) (cf_tr (cf_wI (decide_eq_true (by omega))) (cf_tr (cf_wI (decide_eq_true (by omega))) (cf_tr (cf_wJ (decide_eq_true (by omega))) (cf_wI (decide_eq_true (by omega))))))
theorem de_ps_at {A : cm_S} {nf : Nat} {k p s : Int32} {num : Int64} : (de_ps A nf k p s num).1 73 nf = k ∧ (de_ps A nf k p s num).1 74 nf = p ∧ (de_ps A nf k p s num).1 75 nf = s ∧ (de_ps A nf k p s num).2 76 nf = num ∧ (de_ps A nf k p s num).1 72 4 = Int32.ofNat (nf + 1) := by
  unfold de_ps
  simp [cp_wI1, cp_wI2, cp_wJ1, cp_wJ2]
theorem me_ws_cf {S : cm_S} {nf : Nat} {k p s : Int32} : cf_W (fun b j => decide (125 ≤ b ∧ b ≤ 127 ∧ j = nf ∨ b = 83 ∧ j = 59)) S (me_ws S nf k p s) := cf_tr (cf_wI (decide_eq_true (by omega))) (cf_tr (cf_wI (decide_eq_true (by omega))) (cf_tr (cf_wI (decide_eq_true (by omega))) (cf_wI (decide_eq_true (by omega)))))
theorem me_ws_at {S : cm_S} {nf : Nat} {k p s : Int32} : (me_ws S nf k p s).1 125 nf = k ∧ (me_ws S nf k p s).1 126 nf = p ∧ (me_ws S nf k p s).1 127 nf = s ∧ (me_ws S nf k p s).1 83 59 = Int32.ofNat (nf + 1) := by
  unfold me_ws
  simp [cp_wI1]
theorem me_vl_cf {S : cm_S} {nv : Nat} {t : Int32} {num : Int64} {o1 o2 : Int32} : cf_W (fun b j => decide (121 ≤ b ∧ b ≤ 124 ∧ j = nv ∨ b = 83 ∧ j = 54)) S (me_vl S nv t num o1 o2) := cf_tr (cf_wI (decide_eq_true (by omega))) (cf_tr (cf_wJ (decide_eq_true (by omega))) (cf_tr (cf_wI (decide_eq_true (by omega))) (cf_tr (cf_wI (decide_eq_true (by omega))) (cf_wI (decide_eq_true (by omega))))))
theorem me_vl_at {S : cm_S} {nv : Nat} {t : Int32} {num : Int64} {o1 o2 : Int32} : (me_vl S nv t num o1 o2).1 121 nv = t ∧ (me_vl S nv t num o1 o2).2 122 nv = num ∧ (me_vl S nv t num o1 o2).1 123 nv = o1 ∧ (me_vl S nv t num o1 o2).1 124 nv = o2 ∧ (me_vl S nv t num o1 o2).1 83 54 = Int32.ofNat (nv + 1) := by
  unfold me_vl
  simp [cp_wI1, cp_wI2, cp_wJ1, cp_wJ2]
section DMa19b
variable {A S : cm_S} {V : Nat → ct_T} {G : dm_Gs} {nc ne nf nv : Nat}
/-- a cell more -/
theorem dm_M_mk (h : dm_M A S V G nc ne nf nv) {g q : Nat} {t t2 : ct_T} {s : Int32} (hn : dm_n A S V g q t t2) (hs : dm_sx G ne g t s) : dm_M (de_mk A nc (Int32.ofNat q) s) (me_cl S (nc - 1) (Int32.ofNat (2400 + q)) s) V G (nc + 1) ne nf nv := by
  obtain ⟨h1, h2, h3, h4, h5, h6, h7, h8, h9, h10, h11, h12⟩ := h
  have hA := de_mk_cf (A := A) (nc := nc) (q := Int32.ofNat q) (s := s)
  have hS := me_cl_cf (S := S) (k := nc - 1) (q := Int32.ofNat (2400 + q)) (s := s)
  have oA : dm_fA (fun b j => decide (65 ≤ b ∧ b ≤ 68 ∧ j = nc ∨ b = 64 ∧ j = 4)) nc ne nf := fun b j hb => decide_eq_false (by omega)
  have oS : dm_fS (fun b j => decide (114 ≤ b ∧ b ≤ 117 ∧ j = nc - 1 ∨ b = 83 ∧ j = 45)) nc ne nf nv := fun b j hb => decide_eq_false (by omega)
  obtain ⟨v1, v2, v3, v4, v5⟩ := me_cl_at (S := S) (k := nc - 1) (q := Int32.ofNat (2400 + q)) (s := s)
  obtain ⟨u1, u2, u3, u4⟩ := de_fi_at (A := cm_wI A 64 4 (Int32.ofNat (nc + 1))) (i := nc) (st := -1) (f := Int32.ofNat q) (s := s) (num := 0)
  refine ⟨h1, by omega, ?_, by rw [v5]; congr 1; omega, (hA _ _ (decide_eq_false (by omega))).1.trans h5, (hS _ _ (decide_eq_false (by omega))).1.trans h6, (hA _ _ (decide_eq_false (by omega))).1.trans h7, (hS _ _ (decide_eq_false (by omega))).1.trans h8, (hS _ _ (decide_eq_false (by omega))).1.trans h9, fun k hk => dm_E_c2 hA hS oA oS (fun _ _ => rfl) (Nat.le_succ _) h10 hk, fun m hm hm8 => ?_, fun i hi => dm_fr_c2 hA hS oA oS (fun _ _ => rfl) (Nat.le_refl _) (Nat.le_succ _) (Nat.le_refl _) h2 hi (h12 i hi)⟩
  · show (de_fi (cm_wI A 64 4 (Int32.ofNat (nc + 1))) nc (-1) (Int32.ofNat q) s 0).1 64 4 = _
    rw [(de_fi_cf 64 4 (decide_eq_false (by omega))).1, cp_wI1, if_pos ⟨rfl, rfl⟩]
  · by_cases hmc : m = nc
    · subst hmc
      have hmm : dm_mc m = m - 1 := by unfold dm_mc; rw [if_neg (by omega)]
      refine Or.inr (Or.inl ⟨u1, ⟨g, q, t, t2, u2, dm_n_c2 hA hS oA oS hn, by rw [hmm]; exact v1, ?_⟩, by rw [hmm, v2]; exact u3.symm, by rw [hmm]; exact v3, by rw [hmm]; exact v4⟩)
      show dm_sx G ne g t ((de_fi (cm_wI A 64 4 (Int32.ofNat (m + 1))) m (-1) (Int32.ofNat q) s 0).1 67 m)
      rw [u3]
      exact hs
    · exact dm_cl_c2 hA hS oA oS (fun _ _ => rfl) (Nat.le_refl _) (Nat.le_succ _) (Nat.le_refl _) h2 (by omega) hm8 (h11 m (by omega) hm8)
/-- a cell more, whatever it is -/
theorem dm_M_mkg {A2 S2 : cm_S} (hA : cf_W (fun b j => decide (65 ≤ b ∧ b ≤ 68 ∧ j = nc ∨ b = 64 ∧ j = 4)) A A2) (hS : cf_W (fun b j => decide (114 ≤ b ∧ b ≤ 117 ∧ j = nc - 1 ∨ b = 83 ∧ j = 45)) S S2) (hA4 : A2.1 64 4 = Int32.ofNat (nc + 1)) (hS45 : S2.1 83 45 = Int32.ofNat nc) (hcl : dm_cl A2 S2 V G ne (nc + 1) nv nc) (h : dm_M A S V G nc ne nf nv) : dm_M A2 S2 V G (nc + 1) ne nf nv := by
  obtain ⟨h1, h2, h3, h4, h5, h6, h7, h8, h9, h10, h11, h12⟩ := h
  have oA : dm_fA (fun b j => decide (65 ≤ b ∧ b ≤ 68 ∧ j = nc ∨ b = 64 ∧ j = 4)) nc ne nf := fun b j hb => decide_eq_false (by omega)
  have oS : dm_fS (fun b j => decide (114 ≤ b ∧ b ≤ 117 ∧ j = nc - 1 ∨ b = 83 ∧ j = 45)) nc ne nf nv := fun b j hb => decide_eq_false (by omega)
  refine ⟨h1, by omega, hA4, hS45, (hA _ _ (decide_eq_false (by omega))).1.trans h5, (hS _ _ (decide_eq_false (by omega))).1.trans h6, (hA _ _ (decide_eq_false (by omega))).1.trans h7, (hS _ _ (decide_eq_false (by omega))).1.trans h8, (hS _ _ (decide_eq_false (by omega))).1.trans h9, fun k hk => dm_E_c2 hA hS oA oS (fun _ _ => rfl) (Nat.le_succ _) h10 hk, fun m hm hm8 => ?_, fun i hi => dm_fr_c2 hA hS oA oS (fun _ _ => rfl) (Nat.le_refl _) (Nat.le_succ _) (Nat.le_refl _) h2 hi (h12 i hi)⟩
  by_cases hmc : m = nc
  · rw [hmc]; exact hcl
  · exact dm_cl_c2 hA hS oA oS (fun _ _ => rfl) (Nat.le_refl _) (Nat.le_succ _) (Nat.le_refl _) h2 (by omega) hm8 (h11 m (by omega) hm8)
/-- a scope more -/
theorem dm_M_bd (h : dm_M A S V G nc ne nf nv) {g : Nat} {x y c o : Int32} (hg : g < 8) (hxy : dm_R V g x y) (hc : dm_cr nc c) (ho : dm_sc G ne g o) : dm_M (de_bd A ne x c o) (me_bd S ne y (dm_ce c) o) V (dm_G2 G ne g x o) nc (ne + 1) nf nv := by
  obtain ⟨h1, h2, h3, h4, h5, h6, h7, h8, h9, h10, h11, h12⟩ := h
  have hA := de_bd_cf (A := A) (ne := ne) (x := x) (c := c) (o := o)
  have hS := me_bd_cf (S := S) (ne := ne) (y := y) (c := dm_ce c) (o := o)
  have oA : dm_fA (fun b j => decide (69 ≤ b ∧ b ≤ 71 ∧ j = ne ∨ b = 64 ∧ j = 8)) nc ne nf := fun b j hb => decide_eq_false (by omega)
  have oS : dm_fS (fun b j => decide (118 ≤ b ∧ b ≤ 120 ∧ j = ne ∨ b = 83 ∧ j = 50)) nc ne nf nv := fun b j hb => decide_eq_false (by omega)
  obtain ⟨v1, v2, v3, v4⟩ := me_bd_at (S := S) (ne := ne) (y := y) (c := dm_ce c) (o := o)
  obtain ⟨u1, u2, u3, u4⟩ := de_bd_at (A := A) (ne := ne) (x := x) (c := c) (o := o)
  have hG : ∀ s, s < ne → dm_G2 G ne g x o s = G s := fun s hs => if_neg (by omega)
  refine ⟨h1, h2, (hA _ _ (decide_eq_false (by omega))).1.trans h3, (hS _ _ (decide_eq_false (by omega))).1.trans h4, u4, v4, (hA _ _ (decide_eq_false (by omega))).1.trans h7, (hS _ _ (decide_eq_false (by omega))).1.trans h8, (hS _ _ (decide_eq_false (by omega))).1.trans h9, fun k hk => ?_, fun m hm hm8 => dm_cl_c2 hA hS oA oS hG (Nat.le_succ _) (Nat.le_refl _) (Nat.le_refl _) h2 hm hm8 (h11 m hm hm8), fun i hi => dm_fr_c2 hA hS oA oS hG (Nat.le_succ _) (Nat.le_refl _) (Nat.le_refl _) h2 hi (h12 i hi)⟩
  by_cases hk2 : k = ne
  · subst hk2
    rw [u1, u2, u3, v1, v2, v3, show dm_G2 G k g x o k = (g, fun y => y = x ∨ dm_bs G k o y) from if_pos rfl]
    exact ⟨⟨hxy, fun z hz => hz.imp id (fun hb => dm_bs_mo hb (Nat.le_refl _) hG)⟩, rfl, hc, rfl, dm_sc_mo ho (Nat.le_refl _) hG⟩
  · exact dm_E_c2 hA hS oA oS hG (Nat.le_refl _) h10 (by omega)
/-- a frame more -/
theorem dm_M_ps (h : dm_M A S V G nc ne nf nv) {k p s k2 p2 s2 : Int32} {num : Int64} (hf : dm_fr (de_ps A nf k p s num) (me_ws S nf k2 p2 s2) V G ne nc nv nf) : dm_M (de_ps A nf k p s num) (me_ws S nf k2 p2 s2) V G nc ne (nf + 1) nv := by
  obtain ⟨h1, h2, h3, h4, h5, h6, h7, h8, h9, h10, h11, h12⟩ := h
  have hA := de_ps_cf (A := A) (nf := nf) (k := k) (p := p) (s := s) (num := num)
  have hS := me_ws_cf (S := S) (nf := nf) (k := k2) (p := p2) (s := s2)
  have oA : dm_fA (fun b j => decide (73 ≤ b ∧ b ≤ 76 ∧ j = nf ∨ b = 72 ∧ j = 4)) nc ne nf := fun b j hb => decide_eq_false (by omega)
  have oS : dm_fS (fun b j => decide (125 ≤ b ∧ b ≤ 127 ∧ j = nf ∨ b = 83 ∧ j = 59)) nc ne nf nv := fun b j hb => decide_eq_false (by omega)
  refine ⟨h1, h2, (hA _ _ (decide_eq_false (by omega))).1.trans h3, (hS _ _ (decide_eq_false (by omega))).1.trans h4, (hA _ _ (decide_eq_false (by omega))).1.trans h5, (hS _ _ (decide_eq_false (by omega))).1.trans h6, de_ps_at.2.2.2.2, me_ws_at.2.2.2, (hS _ _ (decide_eq_false (by omega))).1.trans h9, fun k hk => dm_E_c2 hA hS oA oS (fun _ _ => rfl) (Nat.le_refl _) h10 hk, fun m hm hm8 => dm_cl_c2 hA hS oA oS (fun _ _ => rfl) (Nat.le_refl _) (Nat.le_refl _) (Nat.le_refl _) h2 hm hm8 (h11 m hm hm8), fun i hi => ?_⟩
  by_cases hi2 : i = nf
  · subst hi2; exact hf
  · exact dm_fr_c2 hA hS oA oS (fun _ _ => rfl) (Nat.le_refl _) (Nat.le_refl _) (Nat.le_refl _) h2 (by omega) (h12 i (by omega))
/-- a value more -/
theorem dm_M_vl (h : dm_M A S V G nc ne nf nv) {t o1 o2 : Int32} {num : Int64} : dm_M A (me_vl S nv t num o1 o2) V G nc ne nf (nv + 1) := by
  obtain ⟨h1, h2, h3, h4, h5, h6, h7, h8, h9, h10, h11, h12⟩ := h
  have hA : cf_W (fun _ _ => false) A A := cf_rfl
  have hS := me_vl_cf (S := S) (nv := nv) (t := t) (num := num) (o1 := o1) (o2 := o2)
  have oA : dm_fA (fun _ _ => false) nc ne nf := fun b j hb => rfl
  have oS : dm_fS (fun b j => decide (121 ≤ b ∧ b ≤ 124 ∧ j = nv ∨ b = 83 ∧ j = 54)) nc ne nf nv := fun b j hb => decide_eq_false (by omega)
  exact ⟨h1, h2, h3, (hS _ _ (decide_eq_false (by omega))).1.trans h4, h5, (hS _ _ (decide_eq_false (by omega))).1.trans h6, h7, (hS _ _ (decide_eq_false (by omega))).1.trans h8, me_vl_at.2.2.2.2, fun k hk => dm_E_c2 hA hS oA oS (fun _ _ => rfl) (Nat.le_refl _) h10 hk, fun m hm hm8 => dm_cl_c2 hA hS oA oS (fun _ _ => rfl) (Nat.le_refl _) (Nat.le_refl _) (Nat.le_succ _) h2 hm hm8 (h11 m hm hm8), fun i hi => dm_fr_c2 hA hS oA oS (fun _ _ => rfl) (Nat.le_refl _) (Nat.le_refl _) (Nat.le_succ _) h2 hi (h12 i hi)⟩
/-- a frame less -/
theorem dm_M_po (h : dm_M A S V G nc ne (nf + 1) nv) : dm_M (cm_wI A 72 4 (Int32.ofNat nf)) (cm_wI S 83 59 (Int32.ofNat nf)) V G nc ne nf nv := by
  obtain ⟨h1, h2, h3, h4, h5, h6, h7, h8, h9, h10, h11, h12⟩ := h
  have hA : cf_W (fun b j => decide (b = 72 ∧ j = 4)) A (cm_wI A 72 4 (Int32.ofNat nf)) := cf_wI (decide_eq_true ⟨rfl, rfl⟩)
  have hS : cf_W (fun b j => decide (b = 83 ∧ j = 59)) S (cm_wI S 83 59 (Int32.ofNat nf)) := cf_wI (decide_eq_true ⟨rfl, rfl⟩)
  have oA : dm_fA (fun b j => decide (b = 72 ∧ j = 4)) nc ne nf := fun b j hb => decide_eq_false (by omega)
  have oS : dm_fS (fun b j => decide (b = 83 ∧ j = 59)) nc ne nf nv := fun b j hb => decide_eq_false (by omega)
  exact ⟨h1, h2, (hA _ _ (decide_eq_false (by omega))).1.trans h3, (hS _ _ (decide_eq_false (by omega))).1.trans h4, (hA _ _ (decide_eq_false (by omega))).1.trans h5, (hS _ _ (decide_eq_false (by omega))).1.trans h6, by rw [cp_wI1, if_pos ⟨rfl, rfl⟩], by rw [cp_wI1, if_pos ⟨rfl, rfl⟩], (hS _ _ (decide_eq_false (by omega))).1.trans h9, fun k hk => dm_E_c2 hA hS oA oS (fun _ _ => rfl) (Nat.le_refl _) h10 hk, fun m hm hm8 => dm_cl_c2 hA hS oA oS (fun _ _ => rfl) (Nat.le_refl _) (Nat.le_refl _) (Nat.le_refl _) h2 hm hm8 (h11 m hm hm8), fun i hi => dm_fr_c2 hA hS oA oS (fun _ _ => rfl) (Nat.le_refl _) (Nat.le_refl _) (Nat.le_refl _) h2 hi (h12 i (by omega))⟩
end DMa19b
