/-! ## 11 the abstract machine is sound: the walk -/
theorem am_set0_in {ad : Nat → Nat} {L : am_L} {n : Nat} {w0 : Value} : ∀ q ∈ am_as ad ((am_kill L n).set n none), q ∈ (n, w0) :: (am_as ad L).filter (fun q => !(q.1 == n) && !(q.1 + 1 == n && q.2.category == 2)) := by
  rintro ⟨i, w⟩ hq
  obtain ⟨v2, h1, rfl⟩ := am_as_mem.mp hq
  rw [List.getElem?_set] at h1
  split at h1
  · split at h1 <;> cases h1
  · next hne =>
    obtain ⟨h2, h3⟩ := am_kill_get h1
    refine List.mem_cons_of_mem _ (List.mem_filter.mpr ⟨am_as_mem.mpr ⟨v2, h2, rfl⟩, ?_⟩)
    have a1 : (i == n) = false := by simp; exact fun e => hne e.symm
    have a2 : (i + 1 == n && (mv ad v2).category == 2) = false := by
      rw [mv_cat]
      cases hb : (i + 1 == n && v2.category == 2) with
      | false => rfl
      | true =>
        simp only [Bool.and_eq_true, beq_iff_eq] at hb
        exact absurd hb h3
    simp only [a1, a2, Bool.not_false, Bool.and_self]
section AM11
variable {X : am_Xs} {df : am_Df} {T : am_T} {MT : am_Mt} {D : va_G} {cA : Nat → ClassId} {cl : List vw_C} {NW TB : List Cond} {SR NC : List (String × Nat × String)} {A : Nat → Prop} {l : Launch}
set_option maxHeartbeats 8000000 in
set_option maxRecDepth 100000 in
theorem am_walk (hl : l.stackTraces = false) (hTB : ∀ w ∈ TB, goodWord w = true) (hNW : ∀ w ∈ NW, am_nest w) (hNC : am_NcIn NC) (hG : am_G df T MT cl NW TB SR) : ∀ f, am_P X df T MT D cA cl NW TB SR NC A l f
  | 0 => fun d y pc L st u r hev => by simp [am_ev] at hev
  | f + 1 => by
    intro d y pc L st u r hev p e R s m args below meth c H locs cells slots Q ad ls own cc nL B hh hj ret c0 s0 hT S hEnv hN hhj htab hok hPw hDw hSw hls hL hc0 hs0 hRc hRs hRf hRl kR kX kT
    have ih := am_walk hl hTB hNW hNC hG f
    have hA := hEnv.2.2.2.2.2.2.2.1
    have hXs : ∀ a n f, X a = some (n, f) → am_Xt (ad a) n f s s.heap ∧ ad a < s.heap.size ∧ ¬ A (ad a) := fun a n f hx => (hEnv.2.2.2.2.2.2.1 a n f hx).2
    have agS : ∀ n n2, am_ag ad ad n n2 := fun _ _ => ⟨fun _ _ => rfl, fun _ _ => rfl, fun _ => rfl⟩
    unfold am_ev at hev
    rw [hT] at hev
    dsimp only at hev
    split at hev
    · next i n ex hat =>
      obtain ⟨hd, rfl, hw⟩ := hok _ _ hat
      split at hev
      · next r1 hs =>
        obtain ⟨L2, st2⟩ := r1
        exact am_s_ok hs S.1 S.2.1 S.2.2.2.2 S.2.2.2.1 hw hEnv.1 hPw hSw hXs hEnv.2.2.2.2.2.1 hls hL hd (fun ls2 h1 h2 =>
          ih d y _ L2 st2 u r hev p e R s m args below meth c H locs cells slots Q ad ls2 own cc nL B hh hj ret c0 s0 hT S hEnv hN hhj htab hok hPw hDw hSw h1 h2 hc0 hs0 hRc hRs hRf hRl kR kX kT)
      · cases hev
    · next i n ex hat =>
      obtain ⟨hd, rfl, hw⟩ := hok _ _ hat
      split at hev
      · next r1 hs =>
        obtain ⟨st2, h2⟩ := r1
        have hm := am_mono X df T f _ _ _ _ _ _ _ hev
        refine am_w_ok hs S.1 S.2.1 S.2.2.2.2 S.2.2.2.1 hw hEnv.1 hPw hDw hSw hd (fun H1 locs1 q1 q2 q3 hlen => ?_)
        have g1 : u.1.length ≤ ((h2, u.2) : am_M).1.length := Nat.le_of_eq hlen.symm
        exact ih d y _ L st2 (h2, u.2) r hev p e R s m args below meth c H1 locs1 cells slots Q ad ls own cc nL B hh hj ret c0 s0 hT S hEnv hN hhj htab hok q1 q2 q3 hls hL hc0 hs0 hRc hRs hRf hRl (am_kRS kR (agS _ _) g1 hm.1) (am_kXS kX (agS _ _) g1 hm.1) (am_kTS kT (agS _ _) g1 hm.1)
      · cases hev
    · next i n ex hat =>
      obtain ⟨hd, hn, hj2⟩ := hok _ _ hat
      split at hev
      · next r1 hs =>
        obtain ⟨st2, t2⟩ := r1
        exact am_j_ok hs S.1 S.2.1 hj2 hd hn (ih d y _ L st2 u r hev p e R s m args below meth c H locs cells slots Q ad ls own cc nL B hh hj ret c0 s0 hT S hEnv hN hhj htab hok hPw hDw hSw hls hL hc0 hs0 hRc hRs hRf hRl kR kX kT)
      · cases hev
    · next i n ex hat =>
      obtain ⟨hd, rfl, hw⟩ := hok _ _ hat
      split at hev
      · next r1 hs =>
        obtain ⟨st2, u2⟩ := r1
        have hm := am_mono X df T f _ _ _ _ _ _ _ hev
        dsimp only at hm
        refine am_n_ok hs S.1 S.2.1 S.2.2.2.2 S.2.2.2.1 hw hEnv.1 hPw hDw hSw hA hls hd (fun k hk => by omega) (fun k hk => by omega) (fun ad2 H1 kc ks g1 g2 g3 g4 g5 q1 q2 q3 q4 => ?_)
        have ag : am_ag ad ad2 u.1.length u2.1.length := ⟨g1, g2, fun e => by omega⟩
        exact ih d y _ L st2 u2 r hev p e R s m args below meth c H1 locs (cells + kc) (slots + ks) Q ad2 ls own cc nL B hh hj ret c0 s0 hT S (hEnv.ren hNW g2) hN hhj htab hok q1 q2 q3 q4 hL (by omega) (by omega) hRc hRs hRf hRl (am_kRS kR ag (by omega) hm.1) (am_kXS kX ag (by omega) hm.1) (am_kTS kT ag (by omega) hm.1)
      · cases hev
    · next i n kd y2 k cis hat =>
      obtain ⟨hd, yn, b, nL2, r2, hj2, B2, hh2, hMT, hT2, hnL2, hcf⟩ := hok _ _ hat
      rw [hT2] at hev
      split at hev
      · next d2 B3 nL3 hh3 he3 =>
        cases he3
        split at hev
        · next hcond =>
          simp only [Bool.and_eq_true, Nat.ble_eq, decide_eq_true_eq] at hcond
          obtain ⟨⟨hk, hen⟩, hcat, hrc⟩ := hcond
          have hst : st = ((st.take k).reverse).reverse ++ st.drop k := by rw [List.reverse_reverse, List.take_append_drop]
          have hask : ((st.take k).reverse).length = k := by rw [List.length_reverse, List.length_take]; omega
          have hrcv : kd = 0 ∨ am_rc (st.take k).reverse u.1 cis = true := by
            cases hb : Nat.beq kd 0 with
            | true => exact Or.inl (Nat.eq_of_beq_eq_true hb)
            | false =>
              rw [hb] at hrc
              exact Or.inr hrc
          cases hcev : am_ev X df T f d2 y2 0 (am_en nL2 (st.take k).reverse) [] u with
          | none =>
            rw [hcev] at hev
            cases hev
          | some rr =>
            rw [hcev] at hev
            have hm2 := am_mono X df T f _ _ _ _ _ _ _ hcev
            obtain ⟨o, u2⟩ := rr
            dsimp only at hm2
            have hmle : u2.2.1 ≤ r.2.2.1 ∧ u2.2.2 ≤ r.2.2.2 ∧ u2.1.length ≤ r.2.1.length := by
              cases o with
              | inl v =>
                dsimp only at hev
                cases hb : (Nat.beq u2.1.length u.1.length || am_sc u.1.length L (st.drop k) []) with
                | true =>
                  rw [hb] at hev
                  have := am_mono X df T f _ _ _ _ _ _ _ hev
                  omega
                | false =>
                  rw [hb] at hev
                  cases hev
              | inr E =>
                dsimp only at hev
                split at hev
                · cases hev
                  exact ⟨Nat.le_refl _, Nat.le_refl _, Nat.le_refl _⟩
                · split at hev
                  · next t _ j n2 _ =>
                    cases hb : ((Nat.beq u2.1.length u.1.length || am_sc u.1.length L [] []) && Nat.blt j L.length) with
                    | true =>
                      rw [hb] at hev
                      have := am_mono X df T f _ _ _ _ _ _ _ hev
                      omega
                    | false =>
                      rw [hb] at hev
                      cases hev
                  · cases hev
            obtain ⟨mc, hmc⟩ : ∃ mc, u2.2.1 = u.2.1 + mc := ⟨u2.2.1 - u.2.1, by omega⟩
            obtain ⟨ms, hms⟩ : ∃ ms, u2.2.2 = u.2.2 + ms := ⟨u2.2.2 - u.2.2, by omega⟩
            have hM := am_met (ad := ad) hl hTB hNC hG ih hcev hMT hT2 hen hmc hms
            have hrun := am_run_ok (e := e) (below := below) (meth := meth) (Qc := am_Qc D cA cl A ad u (o, u2)) (XC := am_XC D cA cl A ad u (o, u2)) (as := (st.take k).reverse) (rest := st.drop k) (ls := ls) (locs := locs) (cells := cells) (slots := slots) (R := R) hcf hTB S hM rfl rfl (by show d2 + 8 + 1 ≤ _; omega) (by show 8 + (nL2 + 11) + (60 * d2 + 300) ≤ _; omega)
              (fun a U g mk hp => ⟨hp.1, am_Env.same (s := U) (U := U.calling g mk a) hNW rfl rfl hp.2.1, hp.2.2⟩)
              (fun U hU hW => ⟨rfl, hEnv.moved hNW hW (fun _ _ => rfl) (by rw [hU]; exact hSw.1) (fun q h1 h2 => by rw [hU]; exact hSw.2.1 q h1 h2), by rw [hU]; exact hPw, hDw⟩)
              hrcv hEnv.1 hPw hst hask hcat hd hls.1 ⟨by omega, by omega⟩
            intro T0 hT0 X0
            rcases hrun T0 hT0 X0 with ⟨v, st₀, t, T', L9, h0, X', hL9, e1, e2, hq, st1⟩ | ⟨q, st₀, t, T', L9, E, ce, h0, X', hL9, e1, e2, hq, hce, hcv, hcl, st1⟩
            · obtain ⟨v2, ad2, ho, hov, hag, hP2, hD2, hF2⟩ := hq
              dsimp only at ho
              subst ho
              cases hov
              obtain ⟨k1, k2, k3⟩ := vx_keep h0 e1 hSw (fun _ _ z => z) (fun _ z => z) hL9 hF2
              dsimp only at hev
              cases hb : (Nat.beq u2.1.length u.1.length || am_sc u.1.length L (st.drop k) []) with
              | false =>
                rw [hb] at hev
                cases hev
              | true =>
                rw [hb] at hev
                have hb1 : (u2.1.length = u.1.length ∨ am_scL u.1.length L = true) ∧ (u2.1.length = u.1.length ∨ (st.drop k).all (am_scV u.1.length) = true) := by
                  simp only [am_sc, Bool.or_eq_true, Bool.and_eq_true, Nat.beq_eq] at hb
                  rcases hb with hb | hb
                  · exact ⟨Or.inl hb, Or.inl hb⟩
                  · exact ⟨Or.inr hb.1, Or.inr hb.2.1⟩
                have key := ih (d2 + 1) y (pc + 3) L (v2.toList ++ st.drop k) u2 r hev p e R s m args below meth c T'.heap (locs ++ L9) (cells + mc) (slots + ms) Q ad2 ls own cc nL B hh hj ret c0 s0 hT S (hEnv.ren hNW hag.2.1) hN hhj htab hok (by rw [e1]; exact hP2) hD2 k3 (am_L_ag hag hls hb1.1) hL (by omega) (by omega) hRc hRs hRf hRl
                  (am_kRS kR hag hm2.1 hmle.2.2) (am_kXS kX hag hm2.1 hmle.2.2) (am_kTS kT hag hm2.1 hmle.2.2)
                have e9 : (v2.toList ++ st.drop k).map (mv ad2) = (v2.map (mv ad2)).toList ++ (st.drop k).map (mv ad) := by
                  rw [List.map_append, am_st_ag hag hb1.2]
                  cases v2 <;> rfl
                rw [e9] at key
                obtain ⟨t2, a1, b1⟩ := key T' rfl X'
                exact ⟨t2, st1 t2 a1, b1⟩
            · obtain ⟨E9, ad2, ho, hE3, rfl, hag, hP2, hD2, hF2⟩ := hq
              dsimp only at ho
              subst ho
              obtain ⟨k1, k2, k3⟩ := vx_keep h0 e1 hSw (fun _ _ z => z) (fun _ z => z) hL9 hF2
              have hce2 : T'.heap[q]? = some ce := by rw [e1]; exact hce
              have hP3 : va_P D cl (mw ad2 cA u2.1) T'.heap := by rw [e1]; exact hP2
              have k9 : vx_W p l e R s m args below meth c T'.heap (locs ++ L9) (cells + mc) (slots + ms) Q (F0 m pc ls ((st.drop k).map (mv ad))) q := by
                dsimp only at hev
                split at hev
                · next hcn =>
                  cases hev
                  exact kX E9 u2 ad2 T'.heap (locs ++ L9) (cells + mc) (slots + ms) pc ls _ q ce rfl hE3 hag hP3 hD2 k3 (by omega) (by omega) hce2 hcv hcl hcn
                · next t hcs =>
                  split at hev
                  · next j n2 hhs =>
                    cases hb : ((Nat.beq u2.1.length u.1.length || am_sc u.1.length L [] []) && Nat.blt j L.length) with
                    | false =>
                      rw [hb] at hev
                      cases hev
                    | true =>
                      rw [hb] at hev
                      have hb1 : (u2.1.length = u.1.length ∨ am_scL u.1.length L = true) ∧ j < L.length := by
                        simp only [am_sc, Bool.or_eq_true, Bool.and_eq_true, Nat.beq_eq, Nat.blt_eq] at hb
                        obtain ⟨hb | hb, hj9⟩ := hb
                        · exact ⟨Or.inl hb, hj9⟩
                        · exact ⟨Or.inr hb.1, hj9⟩
                      obtain ⟨pre, x, suf, q1, q2, q3, q4, q5, q6, q7⟩ := am_catch_some hN hE3 hh hj hhj hcs
                      have hne : hh ≠ [] := fun z => by rw [z] at hcs; cases hcs
                      refine vx_catch S.2.2.2.1 pre x suf (by rw [htab hne]; exact q1) q2 q3 q4 q5 q6 hce2 hcv hcl ?_
                      rw [q7]
                      have key : ∀ (ls2 : Array Slot), lv_has ls2 nL (am_as ad2 ((am_kill L j).set j none)) → W p l e R s m args below meth c T'.heap (locs ++ L9) (cells + mc) (slots + ms) Q (F0 m (t + n2) ls2 []) := fun ls2 hls2 =>
                        ih (d2 + 1) y (t + n2) ((am_kill L j).set j none) [] u2 r hev p e R s m args below meth c T'.heap (locs ++ L9) (cells + mc) (slots + ms) Q ad2 ls2 own cc nL B hh hj ret c0 s0 hT S (hEnv.ren hNW hag.2.1) hN hhj htab hok hP3 hD2 k3 hls2 (by rw [List.length_set, am_kill_len]; exact hL) (by omega) (by omega) hRc hRs hRf hRl
                          (am_kRS kR hag hm2.1 hmle.2.2) (am_kXS kX hag hm2.1 hmle.2.2) (am_kTS kT hag hm2.1 hmle.2.2)
                      have hls9 := am_L_ag hag hls hb1.1
                      have hjn : j < nL := by rw [← hL]; exact hb1.2
                      unfold am_hs at hhs
                      split at hhs
                      · next k8 ex8 hat8 =>
                        cases hhs
                        have hd8 := hok _ _ hat8
                        exact lv_astore_n S.1 S.2.1 hd8 rfl hls9 hjn rfl (fun ls2 h2 => key ls2 (am_has_of h2 am_set0_in))
                      · next k8 ex8 hat8 =>
                        cases hhs
                        have hd8 := hok _ _ hat8
                        exact lv_astore S.1 S.2.1 hd8 hls9 hjn rfl (fun ls2 h2 => key ls2 (am_has_of h2 am_set0_in))
                      · cases hhs
                  · cases hev
              obtain ⟨t2, a1, b1⟩ := k9 T' rfl X'
              exact ⟨t2, st1.trans a1, b1⟩
        · cases hev
      · cases hev
    · next i n ex hat =>
      split at hev
      · cases hev
        exact kR _ u ad H locs cells slots pc ls _ n _ rfl am_ag.rf hPw hDw hSw hc0 hs0 hat (Or.inl ⟨rfl, _, rfl, Or.inl rfl⟩)
      · split at hev
        · next h01 =>
          cases hev
          exact kR _ u ad H locs cells slots pc ls _ n _ rfl am_ag.rf hPw hDw hSw hc0 hs0 hat (Or.inl ⟨rfl, _, rfl, Or.inr ⟨rfl, h01⟩⟩)
        · cases hev
      · cases hev
        exact kR _ u ad H locs cells slots pc ls _ n _ rfl am_ag.rf hPw hDw hSw hc0 hs0 hat (Or.inr (Or.inl ⟨rfl, _, rfl⟩))
      · cases hev
        exact kR _ u ad H locs cells slots pc ls _ n _ rfl am_ag.rf hPw hDw hSw hc0 hs0 hat (Or.inr (Or.inr ⟨rfl, rfl⟩))
      · cases hev
    · next i n E hat =>
      split at hev
      · split at hev
        · next hcat =>
          cases hev
          exact kT E _ ad H locs cells slots pc ls st i n rfl (agS _ _) hPw hDw hSw (by show c0 + cells + 1 = u.2.1 + 1; omega) (by show s0 + slots + 6 = u.2.2 + 6; omega) hat rfl hls.1 hcat
        · cases hev
      · cases hev
    · next i n ex hat =>
      obtain ⟨idx, hd, h1, h2, h3⟩ := hok _ _ hat
      split at hev
      · next a st2 =>
        split at hev
        · next hcat =>
          refine W.objInit S.1 S.2.1 S.2.2.2.1 h1 h2 h3 rfl (hls.1.trans S.2.2.1.symm) rfl hd (by omega) (by show 2 * 0 + _ + 12 ≤ _; rw [am_cat_map]; omega) ?_
          exact ih d y (pc + 3) L st2 u r hev p e R s m args below meth c H locs cells slots Q ad ls own cc nL B hh hj ret c0 s0 hT S hEnv hN hhj htab hok hPw hDw hSw hls hL hc0 hs0 hRc hRs hRf hRl kR kX kT
        · cases hev
      · cases hev
    · cases hev
end AM11
