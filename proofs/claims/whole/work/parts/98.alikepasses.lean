/-! ## 98 a pass on both sides is alike -/
/-- fresh names on both sides, one to one -/
def dt_dx (D : ct_R) (n1 m1 n2 m2 : Nat) : Prop := ct_bi D ∧ ∀ x y, D x y → ((n1 : Int) ≤ x.toInt ∧ x.toInt < (m1 : Int)) ∧ ((n2 : Int) ≤ y.toInt ∧ y.toInt < (m2 : Int))
theorem dt_dx_sh {n1 n2 u : Nat} (h1 : n1 + u < 2147483648) (h2 : n2 + u < 2147483648) : dt_dx (dt_sh n1 n2 u) n1 (n1 + u) n2 (n2 + u) := by
  refine ⟨⟨fun x y z hy hz => ?_, fun x y z hx hy => ?_⟩, fun x y h => ?_⟩
  · obtain ⟨i, hi, rfl, rfl⟩ := hy
    obtain ⟨j, hj, h3, rfl⟩ := hz
    rw [cp_inj (by omega) (by omega)] at h3
    rw [show i = j by omega]
  · obtain ⟨i, hi, rfl, rfl⟩ := hx
    obtain ⟨j, hj, rfl, h3⟩ := hy
    rw [cp_inj (by omega) (by omega)] at h3
    rw [show i = j by omega]
  · obtain ⟨i, hi, rfl, rfl⟩ := h
    rw [cp_tI (by omega), cp_tI (by omega)]
    omega
theorem dt_un_rb {R D : ct_R} {n1 n2 m1 m2 : Nat} (hR : dt_rb R n1 n2) (hD : dt_dx D n1 m1 n2 m2) (h1 : n1 ≤ m1) (h2 : n2 ≤ m2) : dt_rb (dt_un R D) m1 m2 := by
  refine ⟨⟨fun x y z hy hz => ?_, fun x y z hx hy => ?_⟩, fun x y h => ?_⟩
  · rcases hy with hy | hy <;> rcases hz with hz | hz
    · exact hR.1.1 _ _ _ hy hz
    · have := hR.2 _ _ hy; have := hD.2 _ _ hz; omega
    · have := hD.2 _ _ hy; have := hR.2 _ _ hz; omega
    · exact hD.1.1 _ _ _ hy hz
  · rcases hx with hx | hx <;> rcases hy with hy | hy
    · exact hR.1.2 _ _ _ hx hy
    · have := hR.2 _ _ hx; have := hD.2 _ _ hy; omega
    · have := hD.2 _ _ hx; have := hR.2 _ _ hy; omega
    · exact hD.1.2 _ _ _ hx hy
  · rcases h with h | h
    · have := hR.2 _ _ h; omega
    · have := hD.2 _ _ h; omega
/-- two ranges that do not meet on either side -/
theorem dt_dx_un {D E : ct_R} {a1 b1 a2 b2 c1 d1 c2 d2 l1 h1 l2 h2 : Nat} (hD : dt_dx D a1 b1 a2 b2) (hE : dt_dx E c1 d1 c2 d2) (hx : b1 ≤ c1 ∨ d1 ≤ a1) (hy : b2 ≤ c2 ∨ d2 ≤ a2) (q1 : l1 ≤ a1 ∧ l1 ≤ c1 ∧ b1 ≤ h1 ∧ d1 ≤ h1) (q2 : l2 ≤ a2 ∧ l2 ≤ c2 ∧ b2 ≤ h2 ∧ d2 ≤ h2) : dt_dx (dt_un D E) l1 h1 l2 h2 := by
  refine ⟨⟨fun x y z hy1 hz => ?_, fun x y z hx1 hy1 => ?_⟩, fun x y h => ?_⟩
  · rcases hy1 with hy1 | hy1 <;> rcases hz with hz | hz
    · exact hD.1.1 _ _ _ hy1 hz
    · have := hD.2 _ _ hy1; have := hE.2 _ _ hz; omega
    · have := hE.2 _ _ hy1; have := hD.2 _ _ hz; omega
    · exact hE.1.1 _ _ _ hy1 hz
  · rcases hx1 with hx1 | hx1 <;> rcases hy1 with hy1 | hy1
    · exact hD.1.2 _ _ _ hx1 hy1
    · have := hD.2 _ _ hx1; have := hE.2 _ _ hy1; omega
    · have := hE.2 _ _ hx1; have := hD.2 _ _ hy1; omega
    · exact hE.1.2 _ _ _ hx1 hy1
  · rcases h with h | h
    · have := hD.2 _ _ h; omega
    · have := hE.2 _ _ h; omega
theorem dt_rb_mo {R : ct_R} {n1 n2 m1 m2 : Nat} (h : dt_rb R n1 n2) (h1 : n1 ≤ m1) (h2 : n2 ≤ m2) : dt_rb R m1 m2 := ⟨h.1, fun x y hxy => by have := h.2 x y hxy; omega⟩
/-- what a tree is ahead of a pass -/
def dt_iv (n : Nat) (G : ct_G) (t : ct_T) : Prop := dt_w t ∧ dt_bd n t ∧ dt_gc n G t ∧ ct_lx G t
theorem dt_iv_mo {n m : Nat} {G : ct_G} {t : ct_T} (h : n ≤ m) (hi : dt_iv n G t) : dt_iv m G t := ⟨hi.1, dt_bd_mo h hi.2.1, dt_gc_mo h hi.2.2.1, hi.2.2.2⟩
theorem dt_iv_nd {n : Nat} {G : ct_G} {e : ct_D} {a b c : ct_T} (h : dt_iv n G (ct_nd e a b c)) : dt_iv n (dt_G1 e G) a ∧ dt_iv n (dt_G2 e G) b ∧ dt_iv n (dt_G3 e G) c := by
  obtain ⟨h1, h2, h3, h4⟩ := h
  obtain ⟨p1, p2, pa, pb, pc⟩ := dt_w_nd h1
  obtain ⟨b1, b2, b3⟩ := dt_bd_nd h2
  obtain ⟨g1, g2, g3⟩ := dt_gc_nd p1 h2 h3
  obtain ⟨l1, l2, l3⟩ := dt_lx_nd h1.1 h4
  exact ⟨⟨pa, b1, g1, l1⟩, ⟨pb, b2, g2, l2⟩, ⟨pc, b3, g3, l3⟩⟩
theorem dt_pa_iv {D : dt_Dn} {n0 : Nat} (hD : dt_good D n0) {o : Bool} {t t2 : ct_T} {n m k : Nat} {G : ct_G} (hi : dt_iv n G t) (h0 : n0 ≤ n) (hlt : n + 150 * ct_sz t < 1000000000) (h : dt_pa D o t n = some (t2, m, k)) : dt_res n m G t t2 := dt_pa_ok hD t hi.1.1 n G t2 m k hi.1 hi.2.1 hi.2.2.1 hi.2.2.2 h0 (by omega) h
/-- both sides fail, or come to trees that are alike -/
def dt_pl (R : ct_R) (n1 n2 : Nat) (r1 r2 : Option (ct_T × Nat × Nat)) : Prop := (r1 = none ∧ r2 = none) ∨ ∃ t1 t2 u k D, r1 = some (t1, n1 + u, k) ∧ r2 = some (t2, n2 + u, k) ∧ dt_dx D n1 (n1 + u) n2 (n2 + u) ∧ ct_er (dt_un R D) t1 t2
theorem dt_pl_n {R : ct_R} {n1 n2 : Nat} {r1 r2 : Option (ct_T × Nat × Nat)} (h : dt_pl R n1 n2 r1 r2) (h2 : r2 = none) : r1 = none := by
  rcases h with h | ⟨t1, t2, u, k, D, _, h3, _⟩
  · exact h.1
  · rw [h3] at h2; cases h2
theorem dt_pl_s {R : ct_R} {n1 n2 m k : Nat} {t2 : ct_T} {r1 r2 : Option (ct_T × Nat × Nat)} (h : dt_pl R n1 n2 r1 r2) (h2 : r2 = some (t2, m, k)) : ∃ t1 u D, m = n2 + u ∧ r1 = some (t1, n1 + u, k) ∧ dt_dx D n1 (n1 + u) n2 (n2 + u) ∧ ct_er (dt_un R D) t1 t2 := by
  rcases h with h | ⟨t1, t3, u, k2, D, h1, h3, h4, h5⟩
  · rw [h.2] at h2; cases h2
  · rw [h3] at h2
    cases h2
    exact ⟨t1, u, D, rfl, h1, h4, h5⟩
theorem dt_pa_er {C1 C2 : Nat → ct_T} {Q : Nat → Nat → Bool} {M : Nat → Nat} {RR : List (Int32 × Int32 × Int32 × Int32)} {p N : Nat} (hC : dt_CR C1 C2) (hD1 : dt_good (dt_dn C1 RR (cu_nq Q M) p) N) (hD2 : dt_good (dt_dn C2 RR (cu_nq Q M) p) N) : ∀ t1, ct_wf t1 → ∀ t2, ct_wf t2 → ∀ (n1 n2 : Nat) (G1 G2 : ct_G) (R : ct_R), dt_rb R n1 n2 → ct_er R t1 t2 → dt_iv n1 G1 t1 → dt_iv n2 G2 t2 → N ≤ n1 → N ≤ n2 → n1 + 150 * ct_sz t1 < 1000000000 → n2 + 150 * ct_sz t1 < 1000000000 → dt_pl R n1 n2 (dt_pa (dt_dn C1 RR (cu_nq Q M) p) true t1 n1) (dt_pa (dt_dn C2 RR (cu_nq Q M) p) false t2 n2) :=
  ct_ind (fun t2 hw2 n1 n2 G1 G2 R hR h _ _ _ _ _ _ => by
    rw [ct_er_lf hw2 h, dt_pa_lf, dt_pa_lf]
    exact Or.inr ⟨.leaf, .leaf, 0, 0, fun _ _ => False, rfl, rfl, ⟨⟨fun x y z h _ => h.elim, fun x y z h _ => h.elim⟩, fun x y h => h.elim⟩, trivial⟩) (fun e a b c hw iha ihb ihc t2 hw2 n1 n2 G1 G2 R hR h hi1 hi2 hN1 hN2 hl1 hl2 => by
    obtain ⟨f, x, y, z, rfl, h1, h2, h3, h4⟩ := ct_er_el hw2 h
    obtain ⟨w1, w2, w3, w4, w5, w6, w7⟩ := ct_wf_nd hw2
    obtain ⟨ia, ib, ic⟩ := dt_iv_nd hi1
    obtain ⟨ix, iy, iz⟩ := dt_iv_nd hi2
    have sx := (ct_er_sz a ia.1.1 x ix.1.1 h2).1
    have sy := (ct_er_sz b ib.1.1 y iy.1.1 h3).1
    have sz := (ct_er_sz c ic.1.1 z iz.1.1 h4).1
    rw [ct_sz_nd] at hl1 hl2
    rw [dt_pa_t, dt_pa_f]
    cases hxa : dt_pa (dt_dn C2 RR (cu_nq Q M) p) false x n2 with
    | none =>
      refine Or.inl ⟨?_, rfl⟩
      cases hc1 : dt_pa (dt_dn C1 RR (cu_nq Q M) p) true c n1 with
      | none => rfl
      | some rc =>
        obtain ⟨c', mc, kc⟩ := rc
        have rrc := dt_pa_iv hD1 ic hN1 (by omega) hc1
        have rrc1 := rrc.1
        have rrc2 := rrc.2.1
        show (dt_pa _ true b mc).bind _ = none
        cases hb1 : dt_pa (dt_dn C1 RR (cu_nq Q M) p) true b mc with
        | none => rfl
        | some rb =>
          obtain ⟨b', mb, kb⟩ := rb
          have rrb := dt_pa_iv hD1 (dt_iv_mo rrc1 ib) (by omega) (by omega) hb1
          have rrb1 := rrb.1
          have rrb2 := rrb.2.1
          show (dt_pa _ true a mb).bind _ = none
          rw [dt_pl_n (iha x w5 mb n2 _ _ R (dt_rb_mo hR (by omega) (Nat.le_refl _)) h2 (dt_iv_mo (by omega) ia) ix (by omega) hN2 (by omega) (by omega)) hxa]
          rfl
    | some rx =>
      obtain ⟨x', mx, kx⟩ := rx
      have rrx := dt_pa_iv hD2 ix hN2 (by omega) hxa
      have rrx1 := rrx.1
      have rrx2 := rrx.2.1
      show dt_pl R n1 n2 _ ((dt_pa _ false y mx).bind _)
      cases hyb : dt_pa (dt_dn C2 RR (cu_nq Q M) p) false y mx with
      | none =>
        refine Or.inl ⟨?_, rfl⟩
        cases hc1 : dt_pa (dt_dn C1 RR (cu_nq Q M) p) true c n1 with
        | none => rfl
        | some rc =>
          obtain ⟨c', mc, kc⟩ := rc
          have rrc := dt_pa_iv hD1 ic hN1 (by omega) hc1
          have rrc1 := rrc.1
          have rrc2 := rrc.2.1
          show (dt_pa _ true b mc).bind _ = none
          rw [dt_pl_n (ihb y w6 mc mx _ _ R (dt_rb_mo hR rrc1 rrx1) h3 (dt_iv_mo rrc1 ib) (dt_iv_mo rrx1 iy) (by omega) (by omega) (by omega) (by omega)) hyb]
          rfl
      | some ry =>
        obtain ⟨y', my, ky⟩ := ry
        have rry := dt_pa_iv hD2 (dt_iv_mo rrx1 iy) (by omega) (by omega) hyb
        have rry1 := rry.1
        have rry2 := rry.2.1
        show dt_pl R n1 n2 _ ((dt_pa _ false z my).bind _)
        have lc := ihc z w7 n1 my _ _ R (dt_rb_mo hR (Nat.le_refl _) (by omega)) h4 ic (dt_iv_mo (by omega) iz) hN1 (by omega) (by omega) (by omega)
        cases hzc : dt_pa (dt_dn C2 RR (cu_nq Q M) p) false z my with
        | none =>
          refine Or.inl ⟨?_, rfl⟩
          rw [dt_pl_n lc hzc]
          rfl
        | some rz =>
          obtain ⟨z', mz, kz⟩ := rz
          have rrz := dt_pa_iv hD2 (dt_iv_mo (by omega) iz) (by omega) (by omega) hzc
          have rrz1 := rrz.1
          have rrz2 := rrz.2.1
          obtain ⟨c', uc, Dc, hmc, hcc, dc, ec⟩ := dt_pl_s lc hzc
          rw [hcc]
          have rrc := dt_pa_iv hD1 ic hN1 (by omega) hcc
          have rrc1 := rrc.1
          have rrc2 := rrc.2.1
          have lb := ihb y w6 (n1 + uc) mx _ _ R (dt_rb_mo hR rrc1 rrx1) h3 (dt_iv_mo rrc1 ib) (dt_iv_mo rrx1 iy) (by omega) (by omega) (by omega) (by omega)
          obtain ⟨b', ub, Db, hmb, hbb, db, eb⟩ := dt_pl_s lb hyb
          show dt_pl R n1 n2 ((dt_pa _ true b (n1 + uc)).bind _) _
          rw [hbb]
          have rrb := dt_pa_iv hD1 (dt_iv_mo rrc1 ib) (by omega) (by omega) hbb
          have rrb1 := rrb.1
          have rrb2 := rrb.2.1
          have la := iha x w5 (n1 + uc + ub) n2 _ _ R (dt_rb_mo hR (by omega) (Nat.le_refl _)) h2 (dt_iv_mo (by omega) ia) ix (by omega) hN2 (by omega) (by omega)
          obtain ⟨a', ua, Da, hma, haa, da, ea⟩ := dt_pl_s la hxa
          show dt_pl R n1 n2 ((dt_pa _ true a (n1 + uc + ub)).bind _) _
          rw [haa]
          have rra := dt_pa_iv hD1 (dt_iv_mo (by omega) ia) (by omega) (by omega) haa
          have rra1 := rra.1
          have rra2 := rra.2.1
          show dt_pl R n1 n2 (dt_fn _ (n1 + uc + ub + ua) e a' b' c' (kz + ky + kx)) (dt_fn _ mz f x' y' z' (kx + ky + kz))
          subst hma
          subst hmb
          subst hmc
          -- all fresh names
          have dD := dt_dx_un (l1 := n1) (h1 := n1 + uc + ub + ua) (l2 := n2) (h2 := n2 + ua + ub + uc) da (dt_dx_un (l1 := n1) (h1 := n1 + uc + ub) (l2 := n2 + ua) (h2 := n2 + ua + ub + uc) db dc (by omega) (by omega) (by omega) (by omega)) (by omega) (by omega) (by omega) (by omega)
          have hRD := dt_un_rb hR dD (by omega) (by omega)
          have wa := rra.2.2.1
          have wb := rrb.2.2.1
          have wc := rrc.2.2.1
          have wx := rrx.2.2.1
          have wy := rry.2.2.1
          have wz := rrz.2.2.1
          have hea := ct_er_mono (R2 := dt_un R (dt_un Da (dt_un Db Dc))) (fun x y h => by
            rcases h with h | h
            · exact Or.inl h
            · exact Or.inr (Or.inl h)) _ wa.1 _ wx.1 ea
          have heb := ct_er_mono (R2 := dt_un R (dt_un Da (dt_un Db Dc))) (fun x y h => by
            rcases h with h | h
            · exact Or.inl h
            · exact Or.inr (Or.inr (Or.inl h))) _ wb.1 _ wy.1 eb
          have hec := ct_er_mono (R2 := dt_un R (dt_un Da (dt_un Db Dc))) (fun x y h => by
            rcases h with h | h
            · exact Or.inl h
            · exact Or.inr (Or.inr (Or.inr h))) _ wc.1 _ wz.1 ec
          have hed : ct_ed (dt_un R (dt_un Da (dt_un Db Dc))) e f := by
            have rn : ∀ {x y}, ct_rn R x y → ct_rn (dt_un R (dt_un Da (dt_un Db Dc))) x y := fun h => by
              rcases h with h | ⟨h5, h6, h7⟩
              · exact Or.inl h
              · exact Or.inr ⟨h5, h6, Or.inl h7⟩
            exact ⟨h1.1, h1.2.1, rn h1.2.2.1, rn h1.2.2.2⟩
          have hall : ct_er (dt_un R (dt_un Da (dt_un Db Dc))) (ct_nd e a' b' c') (ct_nd f x' y' z') := ⟨hed, hea, heb, hec⟩
          have pn1 := dt_pa_nd (o := true) hi1.1 hi1.2.1 hi1.2.2.1 hi1.2.2.2 rra rrb rrc (Or.inr ⟨rfl, rfl, rfl, rfl, rfl⟩)
          have pn2 := dt_pa_nd (o := false) hi2.1 hi2.2.1 hi2.2.2.1 hi2.2.2.2 rrx rry rrz (Or.inl ⟨rfl, rfl, rfl, rfl, rfl⟩)
          have dn := dt_dn_er (Q := Q) (M := M) (RR := RR) (p := p) hRD hC pn1.2.2.1 pn2.2.2.1 hall (by omega) (by omega) rra.2.2.2.2.2.2 rrb.2.2.2.2.2.2
          have hsn := (ct_er_sz _ pn1.2.2.1.1 _ pn2.2.2.1.1 hall).1
          rw [ct_sz_nd, ct_sz_nd] at hsn
          unfold dt_fn
          rcases dn with ⟨d1, d2⟩ | ⟨t1, t2, u, d1, d2, d3⟩
          · rw [d1, d2]
            dsimp only
            rw [← hsn]
            split
            · refine Or.inr ⟨_, _, ua + ub + uc, kx + ky + kz, _, ?_, ?_, ?_, hall⟩
              · rw [show n1 + uc + ub + ua = n1 + (ua + ub + uc) by omega, show kz + ky + kx = kx + ky + kz by omega]
              · rw [show n2 + ua + ub + uc = n2 + (ua + ub + uc) by omega]
              · rw [show n1 + (ua + ub + uc) = n1 + uc + ub + ua by omega, show n2 + (ua + ub + uc) = n2 + ua + ub + uc by omega]
                exact dD
            · exact Or.inl ⟨rfl, rfl⟩
          · rw [d1, d2]
            dsimp only
            have ok1 := hD1 _ _ G1 e a' b' c' t1 (by omega) (by omega) pn1.2.2.1 pn1.2.2.2.2.2.1 pn1.2.2.2.2.2.2 pn1.2.2.2.2.1 rra.2.2.2.2.2.2 rrb.2.2.2.2.2.2 d1
            have ok2 := hD2 _ _ G2 f x' y' z' t2 (by omega) (by omega) pn2.2.2.1 pn2.2.2.2.2.2.1 pn2.2.2.2.2.2.2 pn2.2.2.2.2.1 rrx.2.2.2.2.2.2 rry.2.2.2.2.2.2 d2
            have hs2 := (ct_er_sz _ ok1.2.2.1.1 _ ok2.2.2.1.1 d3).1
            rw [← hs2]
            split
            · next hle =>
              have hu := ok1.2.1
              refine Or.inr ⟨t1, t2, ua + ub + uc + u, kx + ky + kz + 1, dt_un (dt_un Da (dt_un Db Dc)) (dt_sh (n1 + uc + ub + ua) (n2 + ua + ub + uc) u), ?_, ?_, ?_, ?_⟩
              · rw [show n1 + uc + ub + ua + u = n1 + (ua + ub + uc + u) by omega, show kz + ky + kx + 1 = kx + ky + kz + 1 by omega]
              · rw [show n2 + ua + ub + uc + u = n2 + (ua + ub + uc + u) by omega]
              · exact dt_dx_un dD (dt_dx_sh (n1 := n1 + uc + ub + ua) (n2 := n2 + ua + ub + uc) (u := u) (by omega) (by omega)) (by omega) (by omega) (by omega) (by omega)
              · refine ct_er_mono (fun x y h => ?_) _ ok1.2.2.1.1 _ ok2.2.2.1.1 d3
                rcases h with (h | h) | h
                · exact Or.inl h
                · exact Or.inr (Or.inl h)
                · exact Or.inr (Or.inr h)
            · exact Or.inl ⟨rfl, rfl⟩)
