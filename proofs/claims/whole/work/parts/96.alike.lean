/-! ## 96 a node done on both sides: alike but for names -/
def dt_un (R D : ct_R) : ct_R := fun x y => R x y ∨ D x y
/-- fresh variables on both sides -/
def dt_sh (n1 n2 u : Nat) : ct_R := fun x y => ∃ i, i < u ∧ x = Int32.ofNat (n1 + i) ∧ y = Int32.ofNat (n2 + i)
/-- names that are alike: one to one, small -/
def dt_rb (R : ct_R) (n1 n2 : Nat) : Prop := ct_bi R ∧ ∀ x y, R x y → (0 ≤ x.toInt ∧ x.toInt < (n1 : Int)) ∧ (0 ≤ y.toInt ∧ y.toInt < (n2 : Int))
theorem ct_er_mm {R R2 : ct_R} {f g : Int32 → Int32} (hf : f (-1) = -1) (hg : g (-1) = -1) (h : ∀ x y, ¬ x = -1 → ¬ y = -1 → R x y → R2 (f x) (g y) ∧ ¬ f x = -1 ∧ ¬ g y = -1) : ∀ t, ct_wf t → ∀ t2, ct_wf t2 → ct_er R t t2 → ct_er R2 (ct_map f t) (ct_map g t2) :=
  ct_ind (fun t2 w h => by rw [ct_er_lf w h]; trivial) (fun e a b c hw iha ihb ihc t2 w h9 => by
    obtain ⟨f2, x, y, z, rfl, h1, h2, h3, h4⟩ := ct_er_el w h9
    obtain ⟨_, _, _, _, w5, w6, w7⟩ := ct_wf_nd w
    rw [ct_map_nd, ct_map_nd, ct_er_nd]
    have hn : ∀ x y, ct_rn R x y → ct_rn R2 (f x) (g y) := fun x y hxy => by
      rcases hxy with ⟨h5, h6⟩ | ⟨h5, h6, h7⟩
      · rw [h5, h6, hf, hg]; exact Or.inl ⟨rfl, rfl⟩
      · obtain ⟨k1, k2, k3⟩ := h x y h5 h6 h7
        exact Or.inr ⟨k2, k3, k1⟩
    exact ⟨⟨h1.1, h1.2.1, hn _ _ h1.2.2.1, hn _ _ h1.2.2.2⟩, iha _ w5 h2, ihb _ w6 h3, ihc _ w7 h4⟩)
theorem dt_er_p {R : ct_R} {a x : ct_T} (ha : ct_wf a) (hx : ct_wf x) (h : ct_er R a x) : ct_ed R (dt_e a) (dt_e x) ∧ ct_er R (dt_a a) (dt_a x) ∧ ct_er R (dt_b a) (dt_b x) ∧ ct_er R (dt_c a) (dt_c x) := by
  by_cases hl : a = .leaf
  · subst hl
    rw [ct_er_lf hx h]
    exact ⟨⟨rfl, rfl, Or.inl ⟨rfl, rfl⟩, Or.inl ⟨rfl, rfl⟩⟩, trivial, trivial, trivial⟩
  · obtain ⟨e, p, q, r, rfl⟩ := ct_cs ha hl
    obtain ⟨f, p2, q2, r2, rfl, h1, h2, h3, h4⟩ := ct_er_el hx h
    exact ⟨h1, h2, h3, h4⟩
theorem dt_er_B {R : ct_R} {t t2 : ct_T} (hw : ct_wf t) (hw2 : ct_wf t2) (hn : ct_nws t) (h : ct_er R t t2) : ct_f2 R (dt_B t) (dt_B t2) := ct_f2_bl (ct_er_fl t hw t2 hw2 h) hn
theorem dt_er_nb {R : ct_R} {t t2 : ct_T} (hw : ct_wf t) (hw2 : ct_wf t2) (hn : ct_nws t) (h : ct_er R t t2) : dt_nb t = dt_nb t2 := ct_f2_len (dt_er_B hw hw2 hn h)
/-- copies are alike -/
theorem dt_er_cp {R R2 : ct_R} (hb : ct_bi R) {N1 N2 k w : Nat} {t t2 : ct_T} (hw : ct_wf t) (hw2 : ct_wf t2) (hn : ct_nws t) (hn2 : ct_nws t2) (h : ct_er R t t2) (hk : k + dt_nb t ≤ w) (h1 : N1 + w < 2147483648) (h2 : N2 + w < 2147483648) (hR : ∀ x y, R x y → ¬ x ∈ dt_B t → R2 x y) : ct_er (dt_un R2 (dt_sh N1 N2 w)) (dt_cp (N1 + k) t) (dt_cp (N2 + k) t2) := by
  have hB := dt_er_B hw hw2 hn h
  have hnb := dt_er_nb hw hw2 hn h
  refine ct_er_mm (dt_fr_no (dt_B_m1 hn)) (dt_fr_no (dt_B_m1 hn2)) (fun x y hx hy hxy => ?_) t hw t2 hw2 h
  obtain ⟨i1, i2⟩ := ct_f2_ix hb hxy hB
  by_cases hxb : x ∈ dt_B t
  · have hyb := i2.mp hxb
    have h3 := ct_ix_lt hxb
    unfold dt_nb at hk
    rw [dt_fr_in hxb, dt_fr_in hyb, ← i1]
    refine ⟨Or.inr ⟨k + ct_ix x (dt_B t), by omega, by rw [Nat.add_assoc], by rw [Nat.add_assoc]⟩, cp_m1 (by omega), cp_m1 (by omega)⟩
  · have hyb : ¬ y ∈ dt_B t2 := fun hc => hxb (i2.mpr hc)
    rw [dt_fr_no hxb, dt_fr_no hyb]
    exact ⟨Or.inl (hR x y hxy hxb), hx, hy⟩
/-- copies put are alike -/
theorem dt_er_put {R : ct_R} (hb : ct_bi R) {N1 N2 : Nat} {v v2 : ct_T} {x y : Int32} (hxy : R x y) (hv : ct_wf v) (hv2 : ct_wf v2) (hvn : ct_nws v) (hvn2 : ct_nws v2) (hvv : ct_er R v v2) : ∀ b, ct_wf b → ∀ b2, ct_wf b2 → ct_nws b → ∀ k, ct_er R b b2 → N1 + (k + ct_cn x (ct_fl b) * dt_nb v) < 2147483648 → N2 + (k + ct_cn x (ct_fl b) * dt_nb v) < 2147483648 →
    (dt_put v x b (N1 + k)).2 = N1 + (k + ct_cn x (ct_fl b) * dt_nb v) ∧ (dt_put v2 y b2 (N2 + k)).2 = N2 + (k + ct_cn x (ct_fl b) * dt_nb v) ∧ ∀ w, k + ct_cn x (ct_fl b) * dt_nb v ≤ w → N1 + w < 2147483648 → N2 + w < 2147483648 → ct_er (dt_un R (dt_sh N1 N2 w)) (dt_put v x b (N1 + k)).1 (dt_put v2 y b2 (N2 + k)).1 :=
  ct_ind (fun b2 hw2 _ k h _ _ => by
    rw [ct_er_lf hw2 h, dt_put_lf, dt_put_lf]
    have h0 : ct_cn x (ct_fl .leaf) * dt_nb v = 0 := by show 0 * _ = 0; omega
    rw [h0]
    exact ⟨rfl, rfl, fun w _ _ _ => trivial⟩) (fun e a b c hw iha ihb ihc b2 hw2 hn k h hl1 hl2 => by
    obtain ⟨f, p, q, r, rfl, h1, h2, h3, h4⟩ := ct_er_el hw2 h
    obtain ⟨w1, w2, w3, w4, w5, w6, w7⟩ := ct_wf_nd hw2
    obtain ⟨n1, n2, n3, n4⟩ := ct_nws_nd hn
    have hcn := ct_cn_nd (x := x) (e := e) (a := a) (b := b) (c := c)
    have edm : ∀ w, ct_ed (dt_un R (dt_sh N1 N2 w)) e f := fun w => by
      have rn : ∀ {x y}, ct_rn R x y → ct_rn (dt_un R (dt_sh N1 N2 w)) x y := fun h => by
        rcases h with h | ⟨h5, h6, h7⟩
        · exact Or.inl h
        · exact Or.inr ⟨h5, h6, Or.inl h7⟩
      exact ⟨h1.1, h1.2.1, rn h1.2.2.1, rn h1.2.2.2⟩
    rw [dt_put_nd, dt_put_nd, ← h1.1]
    by_cases k2 : e.1 = 2
    · obtain ⟨rfl, rfl, rfl⟩ := ct_leafs hw k2
      have lp := ct_er_lf w5 h2
      have lq := ct_er_lf w6 h3
      have lr := ct_er_lf w7 h4
      subst lp
      subst lq
      subst lr
      have hz : ∀ y, ct_cn y (ct_fl .leaf) = 0 := fun y => rfl
      rw [hz] at hcn
      rw [if_pos k2, if_pos k2]
      have h5 : R e.2.2.1 f.2.2.1 := by
        rcases h1.2.2.1 with h5 | h5
        · exact absurd h5.1 (n1.1 (Or.inl k2)).1
        · exact h5.2.2
      by_cases hx : e.2.2.1 = x
      · have hy : f.2.2.1 = y := hb.1 _ _ _ (by rw [hx] at h5; exact h5) hxy
        rw [if_pos hx, if_pos hy]
        rw [if_pos ⟨k2, hx⟩] at hcn
        have hc1 : ct_cn x (ct_fl (ct_nd e .leaf .leaf .leaf)) = 1 := by omega
        rw [hc1, Nat.one_mul]
        refine ⟨by dsimp only; omega, ?_, fun w hw1 hw2 hw3 => dt_er_cp hb hv hv2 hvn hvn2 hvv hw1 hw2 hw3 (fun _ _ h _ => h)⟩
        rw [dt_er_nb hv hv2 hvn hvv]
        dsimp only; omega
      · have hy : ¬ f.2.2.1 = y := fun hc => hx (hb.2 _ _ _ (by rw [hc] at h5; exact h5) hxy)
        rw [if_neg hx, if_neg hy]
        rw [if_neg (fun hc => hx hc.2)] at hcn
        have hc0 : ct_cn x (ct_fl (ct_nd e .leaf .leaf .leaf)) = 0 := by omega
        rw [hc0]
        exact ⟨by dsimp only; omega, by dsimp only; omega, fun w _ _ _ => ⟨edm w, trivial, trivial, trivial⟩⟩
    · rw [if_neg k2, if_neg k2]
      rw [if_neg (fun hc => k2 hc.1), Nat.zero_add] at hcn
      rw [hcn, Nat.add_mul, Nat.add_mul] at hl1 hl2 ⊢
      obtain ⟨a1, a2, a3⟩ := iha p w5 n2 k h2 (by omega) (by omega)
      generalize dt_put v x a (N1 + k) = ra at a1 a3 ⊢
      obtain ⟨ta, na⟩ := ra
      generalize dt_put v2 y p (N2 + k) = ra2 at a2 a3 ⊢
      obtain ⟨ta2, na2⟩ := ra2
      dsimp only at a1 a2 a3 ⊢
      subst a1
      subst a2
      obtain ⟨b1, b2, b3⟩ := ihb q w6 n3 (k + ct_cn x (ct_fl a) * dt_nb v) h3 (by omega) (by omega)
      generalize dt_put v x b (N1 + (k + ct_cn x (ct_fl a) * dt_nb v)) = rb at b1 b3 ⊢
      obtain ⟨tb, nb⟩ := rb
      generalize dt_put v2 y q (N2 + (k + ct_cn x (ct_fl a) * dt_nb v)) = rb2 at b2 b3 ⊢
      obtain ⟨tb2, nb2⟩ := rb2
      dsimp only at b1 b2 b3 ⊢
      subst b1
      subst b2
      obtain ⟨c1, c2, c3⟩ := ihc r w7 n4 (k + ct_cn x (ct_fl a) * dt_nb v + ct_cn x (ct_fl b) * dt_nb v) h4 (by omega) (by omega)
      generalize dt_put v x c (N1 + (k + ct_cn x (ct_fl a) * dt_nb v + ct_cn x (ct_fl b) * dt_nb v)) = rc at c1 c3 ⊢
      obtain ⟨tc, nc⟩ := rc
      generalize dt_put v2 y r (N2 + (k + ct_cn x (ct_fl a) * dt_nb v + ct_cn x (ct_fl b) * dt_nb v)) = rc2 at c2 c3 ⊢
      obtain ⟨tc2, nc2⟩ := rc2
      dsimp only at c1 c2 c3 ⊢
      refine ⟨by omega, by omega, fun w hw1 hw2 hw3 => ⟨edm w, a3 w (by omega) hw2 hw3, b3 w (by omega) hw2 hw3, c3 w (by omega) hw2 hw3⟩⟩)
theorem ct_cw_er {R : ct_R} (hb : ct_bi R) {x y : Int32} (hxy : R x y) : ∀ t, ct_wf t → ∀ t2, ct_wf t2 → ct_nws t → ct_er R t t2 → ct_cw x t = ct_cw y t2 :=
  ct_ind (fun t2 hw2 _ h => by rw [ct_er_lf hw2 h]; rfl) (fun e a b c hw iha ihb ihc t2 hw2 hn h => by
    obtain ⟨f, p, q, r, rfl, h1, h2, h3, h4⟩ := ct_er_el hw2 h
    obtain ⟨w1, w2, w3, w4, w5, w6, w7⟩ := ct_wf_nd hw2
    obtain ⟨v1, v2, v3, v4, v5, v6, v7⟩ := ct_wf_nd hw
    obtain ⟨n1, n2, n3, n4⟩ := ct_nws_nd hn
    rw [ct_cw_nd, ct_cw_nd, ← h1.1, iha p w5 n2 h2, ihb q w6 n3 h3, ihc r w7 n4 h4, ct_cn_app, ct_cn_app, ct_cn_app, ct_cn_app, ct_cn_er hb hxy a v5 p w5 n2 h2, ct_cn_er hb hxy b v6 q w6 n3 h3, ct_cn_er hb hxy c v7 r w7 n4 h4])
theorem ct_hg_er {R : ct_R} : ∀ t, ct_wf t → ∀ t2, ct_wf t2 → ct_er R t t2 → ct_hg (ct_fl t) = ct_hg (ct_fl t2) :=
  ct_ind (fun t2 hw2 h => by rw [ct_er_lf hw2 h]) (fun e a b c hw iha ihb ihc t2 hw2 h => by
    obtain ⟨f, p, q, r, rfl, h1, h2, h3, h4⟩ := ct_er_el hw2 h
    obtain ⟨w1, w2, w3, w4, w5, w6, w7⟩ := ct_wf_nd hw2
    have hg : ∀ (e : ct_D) (a b c : ct_T), ct_hg (ct_fl (ct_nd e a b c)) = (decide (e.1 = 3) || (ct_hg (ct_fl a) || (ct_hg (ct_fl b) || ct_hg (ct_fl c)))) := fun e a b c => by
      rw [ct_fl_nd, ← ct_hg_app, ← ct_hg_app]
      exact List.any_cons
    rw [hg, hg, ← h1.1, iha p w5 h2, ihb q w6 h3, ihc r w7 h4])
/-- cores alike on both sides -/
def dt_CR (C1 C2 : Nat → ct_T) : Prop := ∀ g, (C1 g = .leaf ↔ C2 g = .leaf) ∧ (¬ C1 g = .leaf → ct_co (C1 g) ∧ ct_co (C2 g) ∧ ∃ Rg, ct_bi Rg ∧ (∀ x y, Rg x y → x ∈ dt_B (C1 g)) ∧ ct_er Rg (C1 g) (C2 g))
theorem dt_sm_er {C1 C2 : Nat → ct_T} (h : dt_CR C1 C2) (g : Nat) : dt_sm (C1 g) = dt_sm (C2 g) := by
  by_cases hl : C1 g = .leaf
  · rw [hl, (h g).1.mp hl]
  · obtain ⟨c1, c2, Rg, _, _, h3⟩ := (h g).2 hl
    have hk : dt_k (C1 g) = dt_k (C2 g) := (dt_er_p c1.1 c2.1 h3).1.1
    unfold dt_sm
    rw [hk, (ct_er_sz _ c1.1 _ c2.1 h3).1, ct_hg_er _ c1.1 _ c2.1 h3]
