/-! ## 95 how much a pass makes a tree grow -/
def dt_m (s : Nat) : Nat := if s ≤ 1 then s else s - 1
theorem dt_m_le (s : Nat) : dt_m s ≤ s := by unfold dt_m; split <;> omega
theorem dt_m_s {s : Nat} (h : 2 ≤ s) : dt_m s = s - 1 := by unfold dt_m; rw [if_neg (by omega)]
theorem dt_m_mul {x y : Nat} (hx : 1 ≤ x) (hy : 1 ≤ y) (h : x + y ≤ 7) : dt_m x * dt_m y ≤ x + y := by
  have h2 : ∀ x y : Fin 8, x.val + y.val ≤ 7 → dt_m x.val * dt_m y.val ≤ x.val + y.val := by decide +kernel
  exact h2 ⟨x, by omega⟩ ⟨y, by omega⟩ h
theorem dt_mul_b {p c q mb ma : Nat} (h1 : p + c ≤ mb) (h2 : q ≤ ma) (h3 : 1 ≤ ma) : p + c * q ≤ mb * ma := by
  have h4 : p + c * q ≤ p * ma + c * ma := Nat.add_le_add (Nat.le_mul_of_pos_right p (by omega)) (Nat.mul_le_mul_left c h2)
  rw [← Nat.add_mul] at h4
  exact Nat.le_trans h4 (Nat.mul_le_mul_right ma h1)
/-- a variable more -/
def dt_Fx (F : Int32 → Bool) (x : Int32) (z : Int32) : Bool := F z || decide (z = x)
theorem dt_vf_x {F : Int32 → Bool} {x : Int32} (hx : ¬ F x = true) : ∀ l, dt_vf (dt_Fx F x) l = dt_vf F l + ct_cn x l
  | [] => rfl
  | e :: l => by
    show (if e.1 = 2 ∧ dt_Fx F x e.2.2.1 = true then 1 else 0) + dt_vf (dt_Fx F x) l = (if e.1 = 2 ∧ F e.2.2.1 = true then 1 else 0) + dt_vf F l + ((if e.1 = 2 ∧ e.2.2.1 = x then 1 else 0) + ct_cn x l)
    rw [dt_vf_x hx l]
    have e1 : (if e.1 = 2 ∧ dt_Fx F x e.2.2.1 = true then 1 else 0) = (if e.1 = 2 ∧ F e.2.2.1 = true then 1 else 0) + (if e.1 = 2 ∧ e.2.2.1 = x then 1 else 0) := by
      by_cases h2 : e.1 = 2
      · by_cases hxx : e.2.2.1 = x
        · have hf : ¬ F e.2.2.1 = true := by rw [hxx]; exact hx
          have hg : dt_Fx F x e.2.2.1 = true := by unfold dt_Fx; rw [hxx]; simp
          rw [if_pos ⟨h2, hg⟩, if_neg (fun hc => hf hc.2), if_pos ⟨h2, hxx⟩]
        · have hg : dt_Fx F x e.2.2.1 = F e.2.2.1 := by unfold dt_Fx; rw [decide_eq_false hxx, Bool.or_false]
          rw [hg, if_neg (c := e.1 = 2 ∧ e.2.2.1 = x) (fun hc => hxx hc.2)]
          omega
      · rw [if_neg (fun hc => h2 hc.1), if_neg (fun hc => h2 hc.1), if_neg (fun hc => h2 hc.1)]
    omega
theorem dt_pa_gr {C : Nat → ct_T} {R : List (Int32 × Int32 × Int32 × Int32)} {nq : ct_T → Nat → Bool} {p n0 : Nat} (hC : dt_C C) (hD : dt_good (dt_dn C R nq p) n0) {o : Bool} : ∀ t, ct_wf t → ∀ (n : Nat) (G : ct_G) (t2 : ct_T) (m k : Nat), dt_w t → dt_bd n t → dt_gc n G t → ct_lx G t → n0 ≤ n → n + 150 * ct_sz t < 1000000000 → dt_pa (dt_dn C R nq p) o t n = some (t2, m, k) → ct_sz t2 ≤ 15 * ct_sz t ∧ (ct_sz t ≤ 8 → ∀ F, dt_F n F t → dt_v F t2 ≤ dt_m (ct_sz t)) :=
  ct_ind (fun n G t2 m k _ _ _ _ _ _ h => by
    rw [dt_pa_lf] at h
    cases h
    exact ⟨by omega, fun _ F _ => by rw [dt_v_lf]; omega⟩) (fun e a b c hwf iha ihb ihc n G t2 m k hw hbd hgc hl hn0 hlt h => by
    have hres := dt_pa_ok hD (ct_nd e a b c) hwf n G t2 m k hw hbd hgc hl hn0 (by omega) h
    obtain ⟨na, nb, nc, ma, mb, mc, ka, kb, kc, q, a2, b2, c2, h1, h2, h3, h4, ho⟩ := dt_pa_in h
    obtain ⟨p1, p2, pa, pb, pc⟩ := dt_w_nd hw
    obtain ⟨bda, bdb, bdc⟩ := dt_bd_nd hbd
    obtain ⟨gca, gcb, gcc⟩ := dt_gc_nd p1 hbd hgc
    obtain ⟨lxa, lxb, lxc⟩ := dt_lx_nd hwf hl
    rw [ct_sz_nd] at hlt
    have hsz := ct_sz_nd (e := e) (a := a) (b := b) (c := c)
    have ok := fun (t : ct_T) (hwt : ct_wf t) (n : Nat) (G : ct_G) (t2 : ct_T) (m k : Nat) => dt_pa_ok hD (o := o) t hwt n G t2 m k
    have rall : (n ≤ na ∧ n ≤ nb ∧ n ≤ nc) ∧ (na + 150 * ct_sz a < 1000000000 ∧ nb + 150 * ct_sz b < 1000000000 ∧ nc + 150 * ct_sz c < 1000000000) ∧ dt_res na ma (dt_G1 e G) a a2 ∧ dt_res nb mb (dt_G2 e G) b b2 ∧ dt_res nc mc (dt_G3 e G) c c2 := by
      rcases ho with ⟨_, rfl, rfl, rfl, rfl⟩ | ⟨_, rfl, rfl, rfl, rfl⟩
      · have ra := ok a pa.1 _ _ _ _ _ pa bda gca lxa hn0 (by omega) h1
        have ra1 := ra.1
        have ra2 := ra.2.1
        have rb := ok b pb.1 _ _ _ _ _ pb (dt_bd_mo ra1 bdb) (dt_gc_mo ra1 gcb) lxb (by omega) (by omega) h2
        have rb1 := rb.1
        have rb2 := rb.2.1
        have rc := ok c pc.1 _ _ _ _ _ pc (dt_bd_mo (Nat.le_trans ra1 rb1) bdc) (dt_gc_mo (Nat.le_trans ra1 rb1) gcc) lxc (by omega) (by omega) h3
        exact ⟨by omega, by omega, ra, rb, rc⟩
      · have rc := ok c pc.1 _ _ _ _ _ pc bdc gcc lxc hn0 (by omega) h3
        have rc1 := rc.1
        have rc2 := rc.2.1
        have rb := ok b pb.1 _ _ _ _ _ pb (dt_bd_mo rc1 bdb) (dt_gc_mo rc1 gcb) lxb (by omega) (by omega) h2
        have rb1 := rb.1
        have rb2 := rb.2.1
        have ra := ok a pa.1 _ _ _ _ _ pa (dt_bd_mo (Nat.le_trans rc1 rb1) bda) (dt_gc_mo (Nat.le_trans rc1 rb1) gca) lxa (by omega) (by omega) h1
        exact ⟨by omega, by omega, ra, rb, rc⟩
    obtain ⟨⟨na1, nb1, nc1⟩, ⟨ba, bb, bc⟩, ra, rb, rc⟩ := rall
    obtain ⟨q1, q2, q3, q4, q5, q6, q7⟩ := dt_pa_nd hw hbd hgc hl ra rb rc ho
    obtain ⟨sa1, sa2⟩ := iha na _ _ _ _ pa (dt_bd_mo na1 bda) (dt_gc_mo na1 gca) lxa (by omega) ba h1
    obtain ⟨sb1, sb2⟩ := ihb nb _ _ _ _ pb (dt_bd_mo nb1 bdb) (dt_gc_mo nb1 gcb) lxb (by omega) bb h2
    obtain ⟨sc1, sc2⟩ := ihc nc _ _ _ _ pc (dt_bd_mo nc1 bdc) (dt_gc_mo nc1 gcc) lxc (by omega) bc h3
    have Fsub : ∀ {F : Int32 → Bool}, dt_F n F (ct_nd e a b c) → dt_F na F a ∧ dt_F nb F b ∧ dt_F nc F c := fun hF => by
      refine ⟨fun z hz => ?_, fun z hz => ?_, fun z hz => ?_⟩
      all_goals
        have h5 := hF z hz
        have h6 := dt_ct_nd (z := z) (e := e) (a := a) (b := b) (c := c)
        exact ⟨by omega, by omega⟩
    have ma1 := dt_m_le (ct_sz a)
    have mb1 := dt_m_le (ct_sz b)
    have mc1 := dt_m_le (ct_sz c)
    have nochange : ct_sz (ct_nd e a2 b2 c2) ≤ 15 * ct_sz (ct_nd e a b c) ∧ (ct_sz (ct_nd e a b c) ≤ 8 → ∀ F, dt_F n F (ct_nd e a b c) → dt_v F (ct_nd e a2 b2 c2) ≤ dt_m (ct_sz (ct_nd e a b c))) := by
      refine ⟨by rw [ct_sz_nd, ct_sz_nd]; omega, fun h8 F hF => ?_⟩
      obtain ⟨Fa, Fb, Fc⟩ := Fsub hF
      have va := sa2 (by omega) F Fa
      have vb := sb2 (by omega) F Fb
      have vc := sc2 (by omega) F Fc
      by_cases h2 : e.1 = 2
      · obtain ⟨rfl, rfl, rfl⟩ := ct_leafs hwf h2
        rw [ra.2.2.2.1.mpr rfl, rb.2.2.2.1.mpr rfl, rc.2.2.2.1.mpr rfl, dt_v_nd, dt_v_lf, ct_sz_nd, ct_sz_lf]
        show _ ≤ 1
        split <;> omega
      · rw [dt_v_n2 h2]
        by_cases h0 : ct_sz a + (ct_sz b + ct_sz c) = 0
        · omega
        · rw [dt_m_s (by omega)]; omega
    unfold dt_fn at h4
    split at h4
    · split at h4
      · cases h4
        exact nochange
      · cases h4
    · next r hr =>
      split at h4
      · next hle =>
        cases h4
        have hg := dt_dn_gr hC (by omega) q3 hr
        rcases hg with ⟨g1, g2⟩ | ⟨g1, g2, g3, g4, g5⟩
        · refine ⟨by omega, fun h8 F hF => ?_⟩
          obtain ⟨Fa, Fb, Fc⟩ := Fsub hF
          have va := sa2 (by omega) F Fa
          have vb := sb2 (by omega) F Fb
          have vc := sc2 (by omega) F Fc
          have g5 := g2 F (fun z hz => by have := (hF z hz).2; omega)
          by_cases h0 : ct_sz a + (ct_sz b + ct_sz c) = 0
          · omega
          · rw [dt_m_s (by omega)]; omega
        · obtain ⟨la, lb, lc⟩ := ct_q2 hwf (Or.inr (Or.inl g1))
          have sa0 := ct_sz_ne pa.1 la
          have sb0 := ct_sz_ne pb.1 lb
          have hlc : ct_sz c = 0 := by rw [lc]; rfl
          have hcx : 0 < dt_ct e.2.2.1 (ct_nd e a b c) := by
            rw [dt_ct_nd]
            have : 0 < dt_oc e.2.2.1 e := List.count_pos_iff.mpr (ct_ob_v (Or.inr (Or.inl g1)))
            omega
          have hxb := hbd.2 _ hcx
          have hx1 := hbd.1 e.2.2.1
          have hxa : dt_ct e.2.2.1 a = 0 ∧ dt_ct e.2.2.1 b = 0 := by
            have : 0 < dt_oc e.2.2.1 e := List.count_pos_iff.mpr (ct_ob_v (Or.inr (Or.inl g1)))
            rw [dt_ct_nd] at hx1
            omega
          obtain ⟨bq1, bq2, bq3⟩ := dt_bd_nd q6
          have wa2 := (dt_w_nd q3).2.2.1
          have wb2 := (dt_w_nd q3).2.2.2.1
          have hnb := dt_nb_sz wa2.1
          have hcnle := Nat.le_trans (ct_cn_le (x := e.2.2.1) (ct_fl b2)) (by rw [ct_fl_len]; exact rb.2.2.2.2.2.2)
          have ra7 := ra.2.2.2.2.2.2
          have hmul : ct_cn e.2.2.1 (ct_fl b2) * dt_nb a2 ≤ 150 * 150 := Nat.mul_le_mul hcnle (by omega)
          have la2 : ¬ a2 = .leaf := fun hc => la (ra.2.2.2.1.mp hc)
          have hl2 := dt_lx_nd q3.1 q5
          obtain ⟨k1, k2, k3⟩ := dt_G_6 (e := e) (G := G) (Or.inl g1)
          rw [k1, k2] at hl2
          have gq := dt_gc_nd p1 q6 q7
          rw [k1] at gq
          obtain ⟨u1, u2, u3, u4, u5, u6, u7⟩ := dt_put_ok (x := e.2.2.1) (n0 := q) (Gv := G) wa2 la2 bq1 gq.1 hl2.1 b2 wb2.1 q _ G (Nat.le_refl _) wb2 hl2.2.1 (fun y hy => hy) (fun y hy => hy) (by omega)
          rw [← g3] at u7
          -- occurrences
          have occ : ∀ (F : Int32 → Bool), ct_sz b ≤ 8 → dt_F n F (ct_nd e a b c) → dt_v F b2 + ct_cn e.2.2.1 (ct_fl b2) ≤ dt_m (ct_sz b) := fun F h8 hF => by
            have hFx : ¬ F e.2.2.1 = true := fun hc => by have := (hF _ hc).1; omega
            have h9 := sb2 h8 (dt_Fx F e.2.2.1) (fun z hz => by
              unfold dt_Fx at hz
              simp only [Bool.or_eq_true, decide_eq_true_eq] at hz
              rcases hz with hz | hz
              · exact (Fsub hF).2.1 z hz
              · rw [hz]; exact ⟨hxa.2, by omega⟩)
            unfold dt_v at h9
            rw [dt_vf_x hFx] at h9
            exact h9
          refine ⟨?_, fun h8 F hF => ?_⟩
          · by_cases h10 : 10 ≤ ct_sz (ct_nd e a b c)
            · omega
            · have h11 := occ (fun _ => false) (by omega) (fun z hz => by cases hz)
              have h12 := dt_m_le (ct_sz b)
              have h13 : dt_m (ct_sz b) ≤ 6 := by
                by_cases h2b : 2 ≤ ct_sz b
                · rw [dt_m_s h2b]; omega
                · omega
              rcases g5 with g5 | g5 | g5
              · have : ct_cn e.2.2.1 (ct_fl b2) * ct_sz a2 ≤ ct_cn e.2.2.1 (ct_fl b2) * 1 := Nat.mul_le_mul_left _ g5
                omega
              · rw [g5] at u7; omega
              · have : ct_cn e.2.2.1 (ct_fl b2) * ct_sz a2 ≤ ct_cn e.2.2.1 (ct_fl b2) * 6 := Nat.mul_le_mul_left _ g5
                omega
          · have hFx : ¬ F e.2.2.1 = true := fun hc => by have := (hF _ hc).1; omega
            have h11 := occ F (by omega) hF
            have va := sa2 (by omega) F (Fsub hF).1
            have hFa2 : dt_F q F a2 := fun z hz => by
              have h14 := hF z hz
              have h15 := q4 z
              have h16 := dt_i_no (n := n) (m := q) (z := z) h14.2
              have h17 := dt_ct_nd (z := z) (e := e) (a := a2) (b := b2) (c := c2)
              exact ⟨by omega, by omega⟩
            have hput := (dt_put_v (x := e.2.2.1) (n0 := q) hFx hFa2 b2 wb2.1 q (Nat.le_refl _) (by omega)).1
            rw [g3, hput]
            have h18 := dt_mul_b h11 va (by unfold dt_m; split <;> omega)
            have h19 := dt_m_mul (x := ct_sz b) (y := ct_sz a) sb0 sa0 (by omega)
            rw [dt_m_s (by omega)]
            omega
      · cases h4)
