/-! ## 97 a node done on both sides is alike -/
/-- both sides make nothing of it, or trees that are alike -/
def dt_al (R : ct_R) (n1 n2 : Nat) (r1 r2 : Option (ct_T × Nat)) : Prop := (r1 = none ∧ r2 = none) ∨ ∃ t1 t2 u, r1 = some (t1, n1 + u) ∧ r2 = some (t2, n2 + u) ∧ ct_er (dt_un R (dt_sh n1 n2 u)) t1 t2
theorem dt_al_0 {R : ct_R} {n1 n2 : Nat} {t1 t2 : ct_T} (h : ct_er (dt_un R (dt_sh n1 n2 0)) t1 t2) : dt_al R n1 n2 (some (t1, n1)) (some (t2, n2)) := Or.inr ⟨t1, t2, 0, rfl, rfl, h⟩
theorem dt_al_n {R : ct_R} {n1 n2 : Nat} : dt_al R n1 n2 none none := Or.inl ⟨rfl, rfl⟩
theorem dt_rn_eq {R : ct_R} (h : ct_rn R (-1) (-1)) : True := trivial
theorem dt_rn0 {R : ct_R} : ct_rn R (-1) (-1) := Or.inl ⟨rfl, rfl⟩
section DT97
variable {R : ct_R} {n1 n2 : Nat} {e f : ct_D} {a b c x y z : ct_T} {C1 C2 : Nat → ct_T}
theorem dt_lift_er {R2 : ct_R} (hR : ct_ed R2 e f) (ha : ct_wf a) (hx : ct_wf x) (h1 : ct_er R2 a x) (h2 : ct_er R2 b y) (h3 : ct_er R2 c z) : ct_er R2 (dt_lift e a b c) (dt_lift f x y z) := by
  obtain ⟨p1, p2, p3, p4⟩ := dt_er_p ha hx h1
  exact ⟨p1, p2, ⟨hR, p3, h2, h3⟩, p4⟩
/-- all that a simplification looks at -/
theorem dt_si_er (hR : dt_rb R n1 n2) (hC : dt_CR C1 C2) (hw : dt_w (ct_nd e a b c)) (hw2 : dt_w (ct_nd f x y z)) (h : ct_er R (ct_nd e a b c) (ct_nd f x y z)) (hn1 : n1 < 1000000000) (hn2 : n2 < 1000000000) (hsa : ct_sz a ≤ 150) (hsb : ct_sz b ≤ 150) : dt_al R n1 n2 (dt_si C1 n1 e a b c) (dt_si C2 n2 f x y z) := by
  obtain ⟨p1, p2, pa, pb, pc⟩ := dt_w_nd hw
  obtain ⟨r1, r2, px, py, pz⟩ := dt_w_nd hw2
  have hb := hR.1
  obtain ⟨e1, e2, e3, e4⟩ := h
  have up : ∀ {t t2 : ct_T} {u : Nat}, ct_wf t → ct_wf t2 → ct_er R t t2 → ct_er (dt_un R (dt_sh n1 n2 u)) t t2 := fun h1 h2 h => ct_er_mono (fun _ _ h => Or.inl h) _ h1 _ h2 h
  have edm : ∀ {e f : ct_D} {u : Nat}, ct_ed R e f → ct_ed (dt_un R (dt_sh n1 n2 u)) e f := fun {e f u} h1 => by
    have rn : ∀ {x y}, ct_rn R x y → ct_rn (dt_un R (dt_sh n1 n2 u)) x y := fun h => by
      rcases h with h | ⟨h5, h6, h7⟩
      · exact Or.inl h
      · exact Or.inr ⟨h5, h6, Or.inl h7⟩
    exact ⟨h1.1, h1.2.1, rn h1.2.2.1, rn h1.2.2.2⟩
  obtain ⟨ka, kaa, kab, kac⟩ := dt_er_p pa.1 px.1 e2
  obtain ⟨kb, kba, kbb, kbc⟩ := dt_er_p pb.1 py.1 e3
  have hka : dt_k a = dt_k x := ka.1
  have hkb : dt_k b = dt_k y := kb.1
  have pts : ∀ {t : ct_T}, ct_wf t → ct_wf (dt_a t) ∧ ct_wf (dt_b t) ∧ ct_wf (dt_c t) := fun {t} ht => by
    by_cases hl : t = .leaf
    · rw [hl]; exact ⟨trivial, trivial, trivial⟩
    · obtain ⟨e, p, q, r, rfl⟩ := ct_cs ht hl
      exact ⟨(ct_wf_nd ht).2.2.2.2.1, (ct_wf_nd ht).2.2.2.2.2.1, (ct_wf_nd ht).2.2.2.2.2.2⟩
  have lift : dt_al R n1 n2 (some (dt_lift e a b c, n1)) (some (dt_lift f x y z, n2)) := dt_al_0 (dt_lift_er (edm e1) pa.1 px.1 (up pa.1 px.1 e2) (up pb.1 py.1 e3) (up pc.1 pz.1 e4))
  unfold dt_si
  rw [← e1.1]
  by_cases k5 : e.1 = 5
  · rw [if_pos k5, if_pos k5]
    unfold dt_ap
    rw [← hka]
    by_cases h4 : dt_k a = 4
    · rw [if_pos h4, if_pos h4]
      exact dt_al_0 ⟨⟨rfl, rfl, (edm ka).2.2.1, dt_rn0⟩, up pb.1 py.1 e3, up (pts pa.1).1 (pts px.1).1 kaa, trivial⟩
    · rw [if_neg h4, if_neg h4]
      by_cases hk : dt_lk (dt_k a) = true
      · rw [if_pos hk, if_pos hk]
        exact lift
      · rw [if_neg hk, if_neg hk]
        have hg : dt_gn (dt_e x) = dt_gn (dt_e a) := by unfold dt_gn; rw [ka.2.1]
        rw [hg, ← dt_sm_er hC]
        by_cases h3 : dt_k a = 3 ∧ dt_sm (C1 (dt_gn (dt_e a))) = true
        · rw [if_pos h3, if_pos h3]
          obtain ⟨s1, s2, s3, s4⟩ := dt_sm_of h3.2
          obtain ⟨c1, c2, Rg, g1, g2, g3⟩ := (hC (dt_gn (dt_e a))).2 s4
          generalize C1 (dt_gn (dt_e a)) = u1 at s1 s2 s3 s4 c1 g2 g3 ⊢
          generalize C2 (dt_gn (dt_e a)) = u2 at c2 g3 ⊢
          have hnb := dt_nb_sz c1.1
          have hnn := dt_er_nb c1.1 c2.1 c1.2.2.1 g3
          refine Or.inr ⟨ct_nd e (dt_cp n1 u1) b c, ct_nd f (dt_cp n2 u2) y z, dt_nb u1, rfl, by rw [hnn], ⟨edm e1, ?_, up pb.1 py.1 e3, up pc.1 pz.1 e4⟩⟩
          have hcp := dt_er_cp (R2 := R) (N1 := n1) (N2 := n2) (k := 0) (w := dt_nb u1) g1 c1.1 c2.1 c1.2.2.1 c2.2.2.1 g3 (by omega) (by omega) (by omega) (fun x y h1 h2 => absurd (g2 x y h1) h2)
          exact hcp
        · rw [if_neg h3, if_neg h3]
          exact dt_al_n
  rw [if_neg k5, if_neg k5]
  by_cases k6 : e.1 = 6
  · rw [if_pos k6, if_pos k6]
    have hv : R e.2.2.1 f.2.2.1 := by
      rcases e1.2.2.1 with h5 | h5
      · exact absurd h5.1 (p1.1 (Or.inr (Or.inr (Or.inl k6)))).1
      · exact h5.2.2
    unfold dt_le
    rw [← ct_cn_er hb hv b pb.1 y py.1 pb.2.1 e3, ← ct_cw_er hb hv b pb.1 y py.1 pb.2.1 e3, ← hka, ← (ct_er_sz a pa.1 x px.1 e2).1]
    by_cases h0 : ct_cn e.2.2.1 (ct_fl b) = 0
    · rw [if_pos h0, if_pos h0]
      exact dt_al_0 (up pb.1 py.1 e3)
    · rw [if_neg h0, if_neg h0]
      by_cases h1 : dt_at (dt_k a) = true ∨ (ct_cn e.2.2.1 (ct_fl b) = 1 ∧ ct_cw e.2.2.1 b = 0) ∨ (dt_k a = 4 ∧ ct_sz a ≤ 6)
      · rw [if_pos h1, if_pos h1]
        have hnb := dt_nb_sz pa.1
        have hcnle := Nat.le_trans (ct_cn_le (x := e.2.2.1) (ct_fl b)) (by rw [ct_fl_len]; exact hsb)
        have hmul : ct_cn e.2.2.1 (ct_fl b) * dt_nb a ≤ 150 * 150 := Nat.mul_le_mul hcnle (by omega)
        obtain ⟨q1, q2, q3⟩ := dt_er_put hb (N1 := n1) (N2 := n2) hv pa.1 px.1 pa.2.1 px.2.1 e2 b pb.1 y py.1 pb.2.1 0 e3 (by omega) (by omega)
        rw [Nat.zero_add] at q1 q2 q3
        refine Or.inr ⟨_, _, ct_cn e.2.2.1 (ct_fl b) * dt_nb a, ?_, ?_, q3 _ (Nat.le_refl _) (by omega) (by omega)⟩
        · rw [← q1]; rfl
        · rw [← q2]; rfl
      · rw [if_neg h1, if_neg h1]
        exact dt_al_n
  rw [if_neg k6, if_neg k6]
  by_cases k12 : e.1 = 12
  · rw [if_pos k12, if_pos k12]
    unfold dt_ma
    rw [← hka]
    by_cases h10 : dt_k a = 10
    · rw [if_pos h10, if_pos h10]
      exact dt_al_0 (up pb.1 py.1 e3)
    · rw [if_neg h10, if_neg h10]
      by_cases h11 : dt_k a = 11
      · rw [if_pos h11, if_pos h11]
        exact dt_al_0 ⟨⟨rfl, rfl, (edm e1).2.2.1, dt_rn0⟩, up (pts pa.1).1 (pts px.1).1 kaa, ⟨⟨rfl, rfl, (edm e1).2.2.2, dt_rn0⟩, up (pts pa.1).2.1 (pts px.1).2.1 kab, up pc.1 pz.1 e4, trivial⟩, trivial⟩
      · rw [if_neg h11, if_neg h11]
        by_cases hk : dt_lk (dt_k a) = true
        · rw [if_pos hk, if_pos hk]
          exact lift
        · rw [if_neg hk, if_neg hk]
          exact dt_al_n
  rw [if_neg k12, if_neg k12]
  by_cases k13 : e.1 = 13
  · rw [if_pos k13, if_pos k13]
    unfold dt_te
    rw [← hka, ← ka.2.1]
    by_cases h1 : dt_k a = 1
    · rw [if_pos h1, if_pos h1]
      refine dt_al_0 ?_
      split
      · exact up pc.1 pz.1 e4
      · exact up pb.1 py.1 e3
    · rw [if_neg h1, if_neg h1]
      by_cases hk : dt_lk (dt_k a) = true
      · rw [if_pos hk, if_pos hk]
        exact lift
      · rw [if_neg hk, if_neg hk]
        exact dt_al_n
  rw [if_neg k13, if_neg k13]
  by_cases k9 : e.1 = 9
  · rw [if_pos k9, if_pos k9]
    unfold dt_pr
    rw [← hka, ← hkb, ← ka.2.1, ← kb.2.1, ← e1.2.1]
    by_cases h1 : dt_k a = 1 ∧ dt_k b = 1
    · rw [if_pos h1, if_pos h1]
      exact dt_al_0 ⟨⟨rfl, rfl, dt_rn0, dt_rn0⟩, trivial, trivial, trivial⟩
    · rw [if_neg h1, if_neg h1]
      exact dt_al_n
  rw [if_neg k9, if_neg k9]
  exact dt_al_n
theorem dt_dn_er {Q : Nat → Nat → Bool} {M : Nat → Nat} {RR : List (Int32 × Int32 × Int32 × Int32)} {p : Nat} (hR : dt_rb R n1 n2) (hC : dt_CR C1 C2) (hw : dt_w (ct_nd e a b c)) (hw2 : dt_w (ct_nd f x y z)) (h : ct_er R (ct_nd e a b c) (ct_nd f x y z)) (hn1 : n1 < 1000000000) (hn2 : n2 < 1000000000) (hsa : ct_sz a ≤ 150) (hsb : ct_sz b ≤ 150) : dt_al R n1 n2 (dt_dn C1 RR (cu_nq Q M) p n1 e a b c) (dt_dn C2 RR (cu_nq Q M) p n2 f x y z) := by
  have h' := h
  obtain ⟨p1, p2, pa, pb, pc⟩ := dt_w_nd hw
  obtain ⟨r1, r2, px, py, pz⟩ := dt_w_nd hw2
  have hb := hR.1
  obtain ⟨e1, e2, e3, e4⟩ := h
  have up : ∀ {t t2 : ct_T} {u : Nat}, ct_wf t → ct_wf t2 → ct_er R t t2 → ct_er (dt_un R (dt_sh n1 n2 u)) t t2 := fun h1 h2 h => ct_er_mono (fun _ _ h => Or.inl h) _ h1 _ h2 h
  have edm : ∀ {e f : ct_D} {u : Nat}, ct_ed R e f → ct_ed (dt_un R (dt_sh n1 n2 u)) e f := fun {e f u} h1 => by
    have rn : ∀ {x y}, ct_rn R x y → ct_rn (dt_un R (dt_sh n1 n2 u)) x y := fun h => by
      rcases h with h | ⟨h5, h6, h7⟩
      · exact Or.inl h
      · exact Or.inr ⟨h5, h6, Or.inl h7⟩
    exact ⟨h1.1, h1.2.1, rn h1.2.2.1, rn h1.2.2.2⟩
  obtain ⟨ka, kaa, kab, kac⟩ := dt_er_p pa.1 px.1 e2
  obtain ⟨kb, kba, kbb, kbc⟩ := dt_er_p pb.1 py.1 e3
  have hka : dt_k a = dt_k x := ka.1
  have hkb : dt_k b = dt_k y := kb.1
  have pts : ∀ {t : ct_T}, dt_w t → dt_w (dt_a t) ∧ dt_w (dt_b t) ∧ dt_w (dt_c t) := fun {t} ht => by
    by_cases hl : t = .leaf
    · rw [hl]; exact ⟨dt_w_lf, dt_w_lf, dt_w_lf⟩
    · obtain ⟨e, p, q, r, rfl⟩ := ct_cs ht.1 hl
      exact (dt_w_nd ht).2.2
  have hv : (e.1 = 4 ∨ e.1 = 6) → R e.2.2.1 f.2.2.1 := fun hk => by
    rcases e1.2.2.1 with h5 | h5
    · exact absurd h5.1 (p1.1 (by rcases hk with h | h; exact Or.inr (Or.inl h); exact Or.inr (Or.inr (Or.inl h)))).1
    · exact h5.2.2
  unfold dt_dn
  by_cases h0 : p = 0
  · rw [if_pos h0, if_pos h0]
    exact dt_si_er hR hC hw hw2 h' hn1 hn2 hsa hsb
  rw [if_neg h0, if_neg h0]
  by_cases h1 : p = 1
  · rw [if_pos h1, if_pos h1]
    unfold dt_fi
    rw [← e1.1, ← hkb]
    by_cases k6 : e.1 = 6
    · have hxy := hv (Or.inr k6)
      have cnb : ∀ {t t2 : ct_T}, dt_w t → dt_w t2 → ct_er R t t2 → ct_cn f.2.2.1 (ct_fl t2) = ct_cn e.2.2.1 (ct_fl t) := fun h1 h2 h3 => (ct_cn_er hb hxy _ h1.1 _ h2.1 h1.2.1 h3).symm
      rw [cnb (pts pb).1 (pts py).1 kba, cnb (pts pb).2.1 (pts py).2.1 kbb, cnb (pts pb).2.2 (pts py).2.2 kbc]
      by_cases hc : e.1 = 6 ∧ (dt_k b = 12 ∨ dt_k b = 13) ∧ ct_cn e.2.2.1 (ct_fl (dt_a b)) = 0
      · rw [if_pos hc, if_pos hc]
        split
        · split
          · exact dt_al_n
          · exact dt_al_0 ⟨edm kb, up (pts pb).1.1 (pts py).1.1 kba, ⟨edm e1, up pa.1 px.1 e2, up (pts pb).2.1.1 (pts py).2.1.1 kbb, trivial⟩, up (pts pb).2.2.1 (pts py).2.2.1 kbc⟩
        · split
          · exact dt_al_0 ⟨edm kb, up (pts pb).1.1 (pts py).1.1 kba, up (pts pb).2.1.1 (pts py).2.1.1 kbb, ⟨edm e1, up pa.1 px.1 e2, up (pts pb).2.2.1 (pts py).2.2.1 kbc, trivial⟩⟩
          · exact dt_al_n
      · rw [if_neg hc, if_neg hc]
        exact dt_al_n
    · rw [if_neg (fun hc => k6 hc.1), if_neg (fun hc => k6 hc.1)]
      exact dt_al_n
  rw [if_neg h1, if_neg h1]
  by_cases h2 : p = 2
  · rw [if_pos h2, if_pos h2]
    unfold dt_fo
    rw [← e1.1, ← hka]
    by_cases k4 : e.1 = 4
    · have hxy := hv (Or.inl k4)
      have hkaa : dt_k (dt_a a) = dt_k (dt_a x) := (dt_er_p (pts pa).1.1 (pts px).1.1 kaa).1.1
      rw [← hkaa, ← ct_cn_er hb hxy _ (pts pa).1.1 _ (pts px).1.1 (pts pa).1.2.1 kaa]
      by_cases hc : e.1 = 4 ∧ dt_k a = 6 ∧ ct_cn e.2.2.1 (ct_fl (dt_a a)) = 0 ∧ ¬ dt_at (dt_k (dt_a a)) = true ∧ ¬ dt_k (dt_a a) = 4
      · rw [if_pos hc, if_pos hc]
        exact dt_al_0 (dt_lift_er (edm e1) pa.1 px.1 (up pa.1 px.1 e2) (up pb.1 py.1 e3) (up pc.1 pz.1 e4))
      · rw [if_neg hc, if_neg hc]
        exact dt_al_n
    · rw [if_neg (fun hc => k4 hc.1), if_neg (fun hc => k4 hc.1)]
      exact dt_al_n
  rw [if_neg h2, if_neg h2]
  by_cases h3 : p = 3
  · rw [if_pos h3, if_pos h3]
    unfold dt_ry
    rw [← e1.1, ← hka, ← hkb]
    by_cases hc : e.1 = 6 ∧ dt_k b = 4 ∧ (dt_k a = 1 ∨ dt_k a = 2 ∨ dt_k a = 4)
    · rw [if_pos hc, if_pos hc]
      exact dt_al_0 ⟨edm kb, ⟨edm e1, up pa.1 px.1 e2, up (pts pb).1.1 (pts py).1.1 kba, trivial⟩, up (pts pb).2.1.1 (pts py).2.1.1 kbb, up (pts pb).2.2.1 (pts py).2.2.1 kbc⟩
    · rw [if_neg hc, if_neg hc]
      exact dt_al_n
  rw [if_neg h3, if_neg h3]
  by_cases h4 : p = 4
  · rw [if_pos h4, if_pos h4]
    unfold dt_sr
    rw [← e1.1]
    by_cases k6 : e.1 = 6
    · have hxy := hv (Or.inr k6)
      have hp := hR.2 _ _ hxy
      have hnq : cu_nq Q M y f.2.2.1.toNatClampNeg = cu_nq Q M b e.2.2.1.toNatClampNeg := (congrArg Prod.fst (cu_n2_er hb (fun x y h => ⟨(hR.2 x y h).1.1, (hR.2 x y h).2.1⟩) b pb.1 y py.1 pb.2.1 e3 e.2.2.1.toNatClampNeg f.2.2.1.toNatClampNeg (by rw [cu_nn hp.1.1, cu_nn hp.2.1]; exact hxy))).symm
      rw [hnq]
      by_cases hc : e.1 = 6 ∧ cu_nq Q M b e.2.2.1.toNatClampNeg = true
      · rw [if_pos hc, if_pos hc]
        exact dt_al_0 ⟨⟨rfl, rfl, (edm e1).2.2.1, dt_rn0⟩, up pa.1 px.1 e2, up pb.1 py.1 e3, trivial⟩
      · rw [if_neg hc, if_neg hc]
        exact dt_al_n
    · rw [if_neg (fun hc => k6 hc.1), if_neg (fun hc => k6 hc.1)]
      exact dt_al_n
  rw [if_neg h4, if_neg h4]
  unfold dt_ru
  have hkba : dt_k (dt_a b) = dt_k (dt_a y) := (dt_er_p (pts pb).1.1 (pts py).1.1 kba).1.1
  have hnba : (dt_e (dt_a b)).2.1 = (dt_e (dt_a y)).2.1 := (dt_er_p (pts pb).1.1 (pts py).1.1 kba).1.2.1
  rw [← e1.1, ← hka, ← hkb, ← hkba, ← ka.2.1, ← hnba]
  by_cases hc : e.1 = 5 ∧ dt_k a = 3 ∧ dt_k b = 5 ∧ dt_k (dt_a b) = 3
  · rw [if_pos hc, if_pos hc]
    split
    · exact dt_al_0 ⟨edm e1, ⟨⟨rfl, rfl, dt_rn0, dt_rn0⟩, trivial, trivial, trivial⟩, up (pts pb).2.1.1 (pts py).2.1.1 kbb, trivial⟩
    · exact dt_al_n
  · rw [if_neg hc, if_neg hc]
    exact dt_al_n
end DT97
