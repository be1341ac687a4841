/-! ## 91 what holds of a node that a pass has done -/
theorem dt_G_n {e : ct_D} {G : ct_G} (h4 : ¬ (e.1 = 4 ∨ e.1 = 7)) (h6 : ¬ (e.1 = 6 ∨ e.1 = 8)) (h12 : ¬ e.1 = 12) : dt_G1 e G = G ∧ dt_G2 e G = G ∧ dt_G3 e G = G := by
  unfold dt_G1 dt_G2 dt_G3
  rw [if_neg h4, if_neg h4, if_neg h4, if_neg h6, if_neg h6, if_neg h12]
  exact ⟨rfl, rfl, rfl⟩
theorem dt_G_4 {e : ct_D} {G : ct_G} (h4 : e.1 = 4 ∨ e.1 = 7) : dt_G1 e G = ct_ga G e.2.2.1 ∧ dt_G2 e G = ct_ga G e.2.2.1 ∧ dt_G3 e G = ct_ga G e.2.2.1 := by
  unfold dt_G1 dt_G2 dt_G3
  rw [if_pos h4, if_pos h4, if_pos h4]
  exact ⟨rfl, rfl, rfl⟩
theorem dt_G_6 {e : ct_D} {G : ct_G} (h6 : e.1 = 6 ∨ e.1 = 8) : dt_G1 e G = G ∧ dt_G2 e G = ct_ga G e.2.2.1 ∧ dt_G3 e G = ct_ga G e.2.2.1 := by
  have h4 : ¬ (e.1 = 4 ∨ e.1 = 7) := fun hc => by rcases h6 with h | h <;> rw [h] at hc <;> exact absurd hc (by decide)
  unfold dt_G1 dt_G2 dt_G3
  rw [if_neg h4, if_neg h4, if_neg h4, if_pos h6, if_pos h6]
  exact ⟨rfl, rfl, rfl⟩
theorem dt_G_12 {e : ct_D} {G : ct_G} (h12 : e.1 = 12) : dt_G1 e G = G ∧ dt_G2 e G = G ∧ dt_G3 e G = ct_ga (ct_ga G e.2.2.1) e.2.2.2 := by
  have h4 : ¬ (e.1 = 4 ∨ e.1 = 7) := fun hc => by rw [h12] at hc; exact absurd hc (by decide)
  have h6 : ¬ (e.1 = 6 ∨ e.1 = 8) := fun hc => by rw [h12] at hc; exact absurd hc (by decide)
  unfold dt_G1 dt_G2 dt_G3
  rw [if_neg h4, if_neg h4, if_neg h4, if_neg h6, if_neg h6, if_pos h12]
  exact ⟨rfl, rfl, rfl⟩
theorem dt_Gp {e : ct_D} {G H : ct_G} (h : ∀ y, G y → H y) : (∀ y, dt_G1 e G y → dt_G1 e H y) ∧ (∀ y, dt_G2 e G y → dt_G2 e H y) ∧ (∀ y, dt_G3 e G y → dt_G3 e H y) := by
  unfold dt_G1 dt_G2 dt_G3
  by_cases h4 : e.1 = 4 ∨ e.1 = 7
  · simp only [if_pos h4]
    exact ⟨ct_ga_mono h, ct_ga_mono h, ct_ga_mono h⟩
  · simp only [if_neg h4]
    by_cases h6 : e.1 = 6 ∨ e.1 = 8
    · simp only [if_pos h6]
      exact ⟨h, ct_ga_mono h, ct_ga_mono h⟩
    · simp only [if_neg h6]
      by_cases h12 : e.1 = 12
      · simp only [if_pos h12]
        exact ⟨h, h, ct_ga_mono (ct_ga_mono h)⟩
      · simp only [if_neg h12]
        exact ⟨h, h, h⟩
/-- a node done well -/
def dt_ok (n m : Nat) (G : ct_G) (t t2 : ct_T) : Prop := n ≤ m ∧ m ≤ n + ct_sz t2 ∧ dt_w t2 ∧ ¬ t2 = .leaf ∧ (∀ z, dt_ct z t2 ≤ dt_ct z t + dt_i n m z) ∧ ct_lx G t2
theorem dt_ok_0 {n : Nat} {G : ct_G} {t t2 : ct_T} (h1 : dt_w t2) (h2 : ¬ t2 = .leaf) (h3 : ∀ z, dt_ct z t2 ≤ dt_ct z t) (h4 : ct_lx G t2) : dt_ok n n G t t2 := ⟨Nat.le_refl _, by omega, h1, h2, fun z => by have := h3 z; omega, h4⟩
theorem dt_ndl {e : ct_D} {a b c : ct_T} : ¬ ct_nd e a b c = .leaf := fun h => by cases h
theorem dt_w_LET {x : Int32} {v b : ct_T} (hx : ¬ x = -1) (hv : dt_w v) (hb : dt_w b) (hvn : ¬ v = .leaf) (hbn : ¬ b = .leaf) : dt_w (dt_LET x v b) := by
  have ha : ct_ar (6 : Int32) = 2 := by decide +kernel
  refine dt_w_mk (e := (6, 0, x, -1)) (show 1 ≤ (6 : Int32).toInt ∧ (6 : Int32).toInt ≤ 14 by decide) ?_ ?_ ?_ ?_ ?_ hv hb dt_w_lf
  · show v = .leaf ↔ ct_ar 6 < 1
    rw [ha]; exact ⟨fun h => absurd h hvn, fun h => by omega⟩
  · show b = .leaf ↔ ct_ar 6 < 2
    rw [ha]; exact ⟨fun h => absurd h hbn, fun h => by omega⟩
  · show _ ↔ ct_ar 6 < 3
    rw [ha]; exact ⟨fun _ => by omega, fun _ => rfl⟩
  · exact ⟨fun _ => ⟨hx, rfl⟩, fun h => absurd h (show ¬ (6 : Int32) = 12 by decide), fun h => absurd (Or.inr (Or.inr (Or.inl rfl))) h⟩
  · exact ⟨fun h => absurd h (show ¬ (6 : Int32) = 3 by decide), fun h => absurd h (show ¬ (6 : Int32) = 9 by decide), fun h => absurd h (show ¬ (6 : Int32) = 14 by decide), fun _ => rfl⟩
theorem dt_ct_LET {z x : Int32} {v b : ct_T} : dt_ct z (dt_LET x v b) = [x].count z + (dt_ct z v + dt_ct z b) := by
  unfold dt_LET
  rw [dt_ct_nd, dt_oc_4 (Or.inr (Or.inl rfl)), dt_ct_lf]
  dsimp only
  omega
theorem dt_lx_LET {x : Int32} {v b : ct_T} {G : ct_G} (hv : ct_lx G v) (hb : ct_lx (ct_ga G x) b) : ct_lx G (dt_LET x v b) := by
  unfold dt_LET
  rw [dt_lx (show ¬ (6 : Int32) = 2 by decide)]
  obtain ⟨g1, g2, g3⟩ := dt_G_6 (e := (6, 0, x, -1)) (G := G) (Or.inl rfl)
  rw [g1, g2]
  exact ⟨hv, hb, trivial⟩
theorem dt_lk_of {k : Int32} (h : dt_lk k = true) : k = 6 ∨ k = 7 ∨ k = 8 := of_decide_eq_true h
/-- lifting -/
theorem dt_lift_ok {n : Nat} {G : ct_G} {e : ct_D} {a b c : ct_T} (hw : dt_w (ct_nd e a b c)) (h2 : ¬ e.1 = 2) (hk : dt_lk (dt_k a) = true) (hl : ct_lx G (ct_nd e a b c)) (hx : ct_lx (dt_G1 (dt_e a) G) (dt_a a)) (hy : ct_lx (dt_G1 e (dt_G2 (dt_e a) G)) (dt_b a)) (hb : ∀ y, G y → dt_G2 (dt_e a) G y) : dt_ok n n G (ct_nd e a b c) (dt_lift e a b c) := by
  obtain ⟨p1, p2, pa, pb, pc⟩ := dt_w_nd hw
  have hk6 := dt_lk_of hk
  have hal : ¬ a = .leaf := dt_kl (fun hc => by rw [hc] at hk6; exact absurd hk6 (by decide))
  obtain ⟨f, x, y, z, rfl⟩ := ct_cs pa.1 hal
  have hk6' : f.1 = 6 ∨ f.1 = 7 ∨ f.1 = 8 := hk6
  obtain ⟨q1, q2, px, py, pz⟩ := dt_w_nd pa
  have h26 : f.1 = 5 ∨ f.1 = 6 ∨ f.1 = 7 ∨ f.1 = 8 ∨ f.1 = 9 ∨ f.1 = 11 := by
    rcases hk6' with h | h | h
    · exact Or.inr (Or.inl h)
    · exact Or.inr (Or.inr (Or.inl h))
    · exact Or.inr (Or.inr (Or.inr (Or.inl h)))
  obtain ⟨lx, ly, lz⟩ := ct_q2 pa.1 h26
  rw [dt_lx h2] at hl
  have hx' : ct_lx (dt_G1 f G) x := hx
  have hy' : ct_lx (dt_G1 e (dt_G2 f G)) y := hy
  show dt_ok n n G _ (ct_nd f x (ct_nd e y b c) z)
  have hwi : dt_w (ct_nd e y b c) := dt_w_re hw py pb pc ⟨fun h => absurd h ly, fun h => absurd h dt_ndl⟩ Iff.rfl Iff.rfl
  refine dt_ok_0 (dt_w_re pa px hwi pz Iff.rfl ⟨fun h => absurd h dt_ndl, fun h => absurd h ly⟩ Iff.rfl) dt_ndl (fun q => ?_) ?_
  · rw [dt_ct_nd, dt_ct_nd, dt_ct_nd, dt_ct_nd]; omega
  · have hf2 : ¬ f.1 = 2 := fun hc => by rw [hc] at hk6'; exact absurd hk6' (by decide)
    rw [dt_lx hf2]
    refine ⟨hx', ?_, by rw [lz]; trivial⟩
    rw [dt_lx h2]
    obtain ⟨_, m2, m3⟩ := dt_Gp (e := e) hb
    exact ⟨hy', ct_lx_mono _ pb.1 _ _ m2 hl.2.1, ct_lx_mono _ pc.1 _ _ m3 hl.2.2⟩
/-- lifting out of the first part where it has the surroundings of the node -/
theorem dt_lift_1 {n : Nat} {G : ct_G} {e : ct_D} {a b c : ct_T} (hw : dt_w (ct_nd e a b c)) (he : e.1 = 5 ∨ e.1 = 12 ∨ e.1 = 13) (hk : dt_lk (dt_k a) = true) (hl : ct_lx G (ct_nd e a b c)) : dt_ok n n G (ct_nd e a b c) (dt_lift e a b c) := by
  have h2 : ¬ e.1 = 2 := fun hc => by rw [hc] at he; exact absurd he (by decide)
  have hG1 : ∀ H, dt_G1 e H = H := fun H => by
    unfold dt_G1
    rw [if_neg (fun hc => by rcases he with h | h | h <;> rw [h] at hc <;> exact absurd hc (by decide))]
  have hk6 := dt_lk_of hk
  have hal : ¬ a = .leaf := dt_kl (fun hc => by rw [hc] at hk6; exact absurd hk6 (by decide))
  have hl2 := (dt_lx h2).mp hl
  rw [hG1] at hl2
  have pa := (dt_w_nd hw).2.2.1
  have hla := hl2.1
  rw [dt_nd pa.1 hal] at hla
  have hk2 : ¬ (dt_e a).1 = 2 := fun hc => by rw [show dt_k a = 2 from hc] at hk6; exact absurd hk6 (by decide)
  rw [dt_lx hk2] at hla
  exact dt_lift_ok hw h2 hk hl hla.1 (by rw [hG1]; exact hla.2.1) (fun y hy => (dt_Gs hy).2.1)
/-- cores that may be written where they are applied -/
def dt_C (C : Nat → ct_T) : Prop := ∀ g, ¬ C g = .leaf → ct_co (C g)
theorem dt_sm_of {t : ct_T} (h : dt_sm t = true) : dt_k t = 4 ∧ ct_sz t ≤ 8 ∧ ct_hg (ct_fl t) = false ∧ ¬ t = .leaf := by
  unfold dt_sm at h
  simp only [Bool.and_eq_true, decide_eq_true_eq, Bool.not_eq_true'] at h
  exact ⟨h.1, h.2.1, h.2.2, dt_kl (by rw [h.1]; decide)⟩
theorem dt_co_of {t : ct_T} (h : ct_co t) {n : Nat} (hn : ∀ x, x ∈ dt_B t → x.toInt < (n : Int)) : dt_w t ∧ dt_bd n t ∧ ct_lx (fun _ => False) t := by
  refine ⟨⟨h.1, h.2.2.1, h.2.2.2.2.2.2.1⟩, ⟨dt_nodup.mp h.2.2.2.2.1, fun z hz => ?_⟩, h.2.2.2.2.2.1⟩
  rw [← dt_ct_in] at hz
  exact ⟨(ct_bl_mem h.2.2.2.1 h.2.2.1 z hz).1, hn z hz⟩
theorem dt_gcF {n : Nat} {t : ct_T} : dt_gc n (fun _ => False) t := fun _ h => h.elim
section DT91
variable {C : Nat → ct_T} {n m : Nat} {G : ct_G} {e : ct_D} {a b c t2 : ct_T}
theorem dt_ap_ok (hC : dt_C C) (hCn : ∀ g x, x ∈ dt_B (C g) → x.toInt < (n : Int)) (hn : n < 2000000000) (hw : dt_w (ct_nd e a b c)) (he : e.1 = 5) (hl : ct_lx G (ct_nd e a b c)) (h : dt_ap C n e a b c = some (t2, m)) : dt_ok n m G (ct_nd e a b c) t2 := by
  obtain ⟨p1, p2, pa, pb, pc⟩ := dt_w_nd hw
  obtain ⟨la, lb, lc⟩ := ct_q2 hw.1 (Or.inl he)
  have h2 : ¬ e.1 = 2 := by rw [he]; decide
  have hl2 := (dt_lx h2).mp hl
  obtain ⟨g1, g2, g3⟩ := dt_G_n (e := e) (G := G) (by rw [he]; decide) (by rw [he]; decide) (by rw [he]; decide)
  rw [g1, g2, g3] at hl2
  unfold dt_ap at h
  by_cases h4 : dt_k a = 4
  · rw [if_pos h4] at h
    cases h
    obtain ⟨f, x, y, z, rfl⟩ := ct_cs pa.1 la
    have h4' : f.1 = 4 := h4
    obtain ⟨lx, ly, lz⟩ := ct_q1 pa.1 (Or.inl h4')
    obtain ⟨q1, q2, px, py, pz⟩ := dt_w_nd pa
    show dt_ok n n G _ (dt_LET f.2.2.1 b x)
    have hla := hl2.1
    rw [dt_lx (by rw [h4']; decide), (dt_G_4 (G := G) (Or.inl h4')).1] at hla
    refine dt_ok_0 (dt_w_LET (q1.1 (Or.inr (Or.inl h4'))).1 pb px lb lx) dt_ndl (fun q => ?_) (dt_lx_LET hl2.2.1 hla.1)
    rw [dt_ct_LET, dt_ct_nd, dt_ct_nd, dt_oc_4 (e := f) (Or.inl h4')]
    omega
  · rw [if_neg h4] at h
    by_cases hk : dt_lk (dt_k a) = true
    · rw [if_pos hk] at h
      cases h
      exact dt_lift_1 hw (Or.inl he) hk hl
    · rw [if_neg hk] at h
      by_cases h3 : dt_k a = 3 ∧ dt_sm (C (dt_gn (dt_e a))) = true
      · rw [if_pos h3] at h
        obtain ⟨s1, s2, s3, s4⟩ := dt_sm_of h3.2
        have hco := hC _ s4
        obtain ⟨c1, c2, c3⟩ := dt_co_of hco (hCn _)
        generalize hu : C (dt_gn (dt_e a)) = u at h s1 s2 s3 s4 hco c1 c2 c3
        cases h
        have hnb := dt_nb_sz c1.1
        obtain ⟨d1, d2, d3, d4, d5⟩ := dt_cp_w c1 c2 dt_gcF c3 (n := n) (by omega)
        have hwf : dt_w (ct_nd e (dt_cp n u) b c) := dt_w_re hw d1 pb pc ⟨fun h => absurd (d3.mp h) s4, fun h => absurd h la⟩ Iff.rfl Iff.rfl
        refine ⟨by omega, ?_, hwf, dt_ndl, fun z => ?_, ?_⟩
        · rw [ct_sz_nd, d4]; omega
        · have := dt_cp_i c2.1 (n := n) (by omega) z
          rw [dt_ct_nd, dt_ct_nd]; omega
        · rw [dt_lx h2, g1, g2, g3]
          exact ⟨ct_lx_mono _ d1.1 _ _ (fun y hy => hy.elim) d2, hl2.2⟩
      · rw [if_neg h3] at h
        cases h
theorem dt_le_ok (hn : n < 2000000000) (hw : dt_w (ct_nd e a b c)) (he : e.1 = 6) (hbd : dt_bd n (ct_nd e a b c)) (hgc : dt_gc n G (ct_nd e a b c)) (hl : ct_lx G (ct_nd e a b c)) (hsz : ct_sz a ≤ 150) (hsz2 : ct_sz b ≤ 150) (h : dt_le n e a b = some (t2, m)) : dt_ok n m G (ct_nd e a b c) t2 := by
  obtain ⟨p1, p2, pa, pb, pc⟩ := dt_w_nd hw
  obtain ⟨la, lb, lc⟩ := ct_q2 hw.1 (Or.inr (Or.inl he))
  have h2 : ¬ e.1 = 2 := by rw [he]; decide
  have hl2 := (dt_lx h2).mp hl
  obtain ⟨g1, g2, g3⟩ := dt_G_6 (e := e) (G := G) (Or.inl he)
  rw [g1, g2, g3] at hl2
  unfold dt_le at h
  by_cases h0 : ct_cn e.2.2.1 (ct_fl b) = 0
  · rw [if_pos h0] at h
    cases h
    exact dt_ok_0 pb lb (fun z => by rw [dt_ct_nd]; omega) (dt_lx_st b pb.1 _ _ (fun y hy => hy) h0 hl2.2.1)
  · rw [if_neg h0] at h
    by_cases h1 : dt_at (dt_k a) = true ∨ (ct_cn e.2.2.1 (ct_fl b) = 1 ∧ ct_cw e.2.2.1 b = 0) ∨ (dt_k a = 4 ∧ ct_sz a ≤ 6)
    · rw [if_pos h1] at h
      have hca : ∀ z, dt_ct z a ≤ dt_ct z (ct_nd e a b c) := fun z => by rw [dt_ct_nd]; omega
      have hcb : ∀ z, dt_ct z b ≤ dt_ct z (ct_nd e a b c) := fun z => by rw [dt_ct_nd]; omega
      have hnb := dt_nb_sz pa.1
      have hcnle := Nat.le_trans (ct_cn_le (x := e.2.2.1) (ct_fl b)) (by rw [ct_fl_len]; exact hsz2)
      have hmul : ct_cn e.2.2.1 (ct_fl b) * dt_nb a ≤ 150 * 150 := Nat.mul_le_mul hcnle (by omega)
      obtain ⟨r1, r2, r3, r4, r5, r6, r7⟩ := dt_put_ok (x := e.2.2.1) (n0 := n) (Gv := G) pa la ⟨fun z => Nat.le_trans (hca z) (hbd.1 z), fun z hz => hbd.2 z (Nat.lt_of_lt_of_le hz (hca z))⟩ (fun x hx => ⟨by have := (hgc x hx).1; have := hca x; omega, (hgc x hx).2⟩) hl2.1 b pb.1 n _ G (Nat.le_refl _) pb hl2.2.1 (fun y hy => hy) (fun y hy => hy) (by omega)
      have h' := Option.some.inj h
      rw [h'] at r1 r2 r3 r4 r5 r6 r7
      dsimp only at r1 r2 r3 r4 r5 r6 r7
      exact ⟨by omega, r6, r2, fun hc => lb (r3.mp hc), fun z => by have := r5 z; have := hcb z; omega, r4⟩
    · rw [if_neg h1] at h
      cases h
theorem dt_ma_ok (hw : dt_w (ct_nd e a b c)) (he : e.1 = 12) (hl : ct_lx G (ct_nd e a b c)) (h : dt_ma n e a b c = some (t2, m)) : dt_ok n m G (ct_nd e a b c) t2 := by
  obtain ⟨p1, p2, pa, pb, pc⟩ := dt_w_nd hw
  obtain ⟨la, lb, lc⟩ := ct_q3 hw.1 (Or.inl he)
  have h2 : ¬ e.1 = 2 := by rw [he]; decide
  have hl2 := (dt_lx h2).mp hl
  obtain ⟨g1, g2, g3⟩ := dt_G_12 (e := e) (G := G) he
  rw [g1, g2, g3] at hl2
  unfold dt_ma at h
  by_cases h10 : dt_k a = 10
  · rw [if_pos h10] at h
    cases h
    exact dt_ok_0 pb lb (fun z => by rw [dt_ct_nd]; omega) hl2.2.1
  · rw [if_neg h10] at h
    by_cases h11 : dt_k a = 11
    · rw [if_pos h11] at h
      cases h
      obtain ⟨f, x, y, z, rfl⟩ := ct_cs pa.1 la
      have h11' : f.1 = 11 := h11
      obtain ⟨lx, ly, lz⟩ := ct_q2 pa.1 (Or.inr (Or.inr (Or.inr (Or.inr (Or.inr h11')))))
      obtain ⟨q1, q2, px, py, pz⟩ := dt_w_nd pa
      show dt_ok n n G _ (dt_LET e.2.2.1 x (dt_LET e.2.2.2 y c))
      have hla := hl2.1
      obtain ⟨k1, k2, k3⟩ := dt_G_n (e := f) (G := G) (by rw [h11']; decide) (by rw [h11']; decide) (by rw [h11']; decide)
      rw [dt_lx (by rw [h11']; decide), k1, k2, k3] at hla
      obtain ⟨n1, n2, n3⟩ := p1.2.1 he
      refine dt_ok_0 (dt_w_LET n1 px (dt_w_LET n2 py pc ly lc) lx dt_ndl) dt_ndl (fun q => ?_) (dt_lx_LET hla.1 (dt_lx_LET (ct_lx_mono _ py.1 _ _ (fun y hy => Or.inl hy) hla.2.1) hl2.2.2))
      rw [dt_ct_LET, dt_ct_LET, dt_ct_nd, dt_ct_nd, dt_oc_12 he]
      omega
    · rw [if_neg h11] at h
      by_cases hk : dt_lk (dt_k a) = true
      · rw [if_pos hk] at h
        cases h
        exact dt_lift_1 hw (Or.inr (Or.inl he)) hk hl
      · rw [if_neg hk] at h
        cases h
theorem dt_te_ok (hw : dt_w (ct_nd e a b c)) (he : e.1 = 13) (hl : ct_lx G (ct_nd e a b c)) (h : dt_te n e a b c = some (t2, m)) : dt_ok n m G (ct_nd e a b c) t2 := by
  obtain ⟨p1, p2, pa, pb, pc⟩ := dt_w_nd hw
  obtain ⟨la, lb, lc⟩ := ct_q3 hw.1 (Or.inr he)
  have h2 : ¬ e.1 = 2 := by rw [he]; decide
  have hl2 := (dt_lx h2).mp hl
  obtain ⟨g1, g2, g3⟩ := dt_G_n (e := e) (G := G) (by rw [he]; decide) (by rw [he]; decide) (by rw [he]; decide)
  rw [g1, g2, g3] at hl2
  unfold dt_te at h
  by_cases h1 : dt_k a = 1
  · rw [if_pos h1] at h
    cases h
    split
    · exact dt_ok_0 pc lc (fun z => by rw [dt_ct_nd]; omega) hl2.2.2
    · exact dt_ok_0 pb lb (fun z => by rw [dt_ct_nd]; omega) hl2.2.1
  · rw [if_neg h1] at h
    by_cases hk : dt_lk (dt_k a) = true
    · rw [if_pos hk] at h
      cases h
      exact dt_lift_1 hw (Or.inr (Or.inr he)) hk hl
    · rw [if_neg hk] at h
      cases h
theorem dt_pr_ok (h : dt_pr n e a b = some (t2, m)) : dt_ok n m G (ct_nd e a b c) t2 := by
  unfold dt_pr at h
  by_cases h1 : dt_k a = 1 ∧ dt_k b = 1
  · rw [if_pos h1] at h
    cases h
    have ha : ct_ar (1 : Int32) = 0 := by decide +kernel
    refine dt_ok_0 (dt_w_mk (by show (1 : Int) ≤ 1 ∧ (1 : Int) ≤ 14; omega) ?_ ?_ ?_ ?_ ?_ dt_w_lf dt_w_lf dt_w_lf) dt_ndl (fun z => ?_) ?_
    · show _ ↔ ct_ar 1 < 1
      rw [ha]; exact ⟨fun _ => by omega, fun _ => rfl⟩
    · show _ ↔ ct_ar 1 < 2
      rw [ha]; exact ⟨fun _ => by omega, fun _ => rfl⟩
    · show _ ↔ ct_ar 1 < 3
      rw [ha]; exact ⟨fun _ => by omega, fun _ => rfl⟩
    · exact ⟨fun h => absurd h (show ¬ ((1 : Int32) = 2 ∨ (1 : Int32) = 4 ∨ (1 : Int32) = 6 ∨ (1 : Int32) = 7 ∨ (1 : Int32) = 8) by decide), fun h => absurd h (show ¬ (1 : Int32) = 12 by decide), fun _ => ⟨rfl, rfl⟩⟩
    · exact ⟨fun h => absurd h (show ¬ (1 : Int32) = 3 by decide), fun h => absurd h (show ¬ (1 : Int32) = 9 by decide), fun h => absurd h (show ¬ (1 : Int32) = 14 by decide), fun h => absurd (Or.inl rfl) h⟩
    · rw [dt_ct_nd, dt_oc_n (show ¬ ((1 : Int32) = 4 ∨ (1 : Int32) = 6 ∨ (1 : Int32) = 7 ∨ (1 : Int32) = 8) by decide) (show ¬ (1 : Int32) = 12 by decide), dt_ct_lf]; omega
    · rw [dt_lx (show ¬ (1 : Int32) = 2 by decide)]
      exact ⟨trivial, trivial, trivial⟩
  · rw [if_neg h1] at h
    cases h
end DT91
