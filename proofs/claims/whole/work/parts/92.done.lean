/-! ## 92 what holds of a tree that a pass has gone through -/
theorem dt_rok_64 {x : Int32} (h : 0 ≤ x.toInt ∧ x.toInt < 8) : 0 ≤ x.toInt64.toInt ∧ x.toInt64.toInt < 8 := by
  rw [Int32.toInt_toInt64]
  exact h
section DT92
variable {n m : Nat} {G : ct_G} {e : ct_D} {a b c t2 : ct_T}
theorem dt_at_of {k : Int32} (h : dt_at k = true) : k = 1 ∨ k = 2 ∨ k = 3 := of_decide_eq_true h
theorem dt_fi_ok (hw : dt_w (ct_nd e a b c)) (hl : ct_lx G (ct_nd e a b c)) (h : dt_fi n e a b = some (t2, m)) : dt_ok n m G (ct_nd e a b c) t2 := by
  obtain ⟨p1, p2, pa, pb, pc⟩ := dt_w_nd hw
  unfold dt_fi at h
  by_cases h1 : e.1 = 6 ∧ (dt_k b = 12 ∨ dt_k b = 13) ∧ ct_cn e.2.2.1 (ct_fl (dt_a b)) = 0
  · rw [if_pos h1] at h
    obtain ⟨he, hk, h0⟩ := h1
    obtain ⟨la, lb, lc⟩ := ct_q2 hw.1 (Or.inr (Or.inl he))
    have h2 : ¬ e.1 = 2 := by rw [he]; decide
    have hl2 := (dt_lx h2).mp hl
    obtain ⟨g1, g2, g3⟩ := dt_G_6 (e := e) (G := G) (Or.inl he)
    rw [g1, g2, g3] at hl2
    obtain ⟨f, x, y, z, rfl⟩ := ct_cs pb.1 lb
    have hk' : f.1 = 12 ∨ f.1 = 13 := hk
    have h0' : ct_cn e.2.2.1 (ct_fl x) = 0 := h0
    obtain ⟨lx, ly, lz⟩ := ct_q3 pb.1 hk'
    obtain ⟨q1, q2, px, py, pz⟩ := dt_w_nd pb
    have hf2 : ¬ f.1 = 2 := fun hc => by rw [hc] at hk'; exact absurd hk' (by decide)
    have hG12 : ∀ H, dt_G1 f H = H ∧ dt_G2 f H = H := fun H => by
      rcases hk' with h | h
      · obtain ⟨k1, k2, _⟩ := dt_G_12 (e := f) (G := H) h
        exact ⟨k1, k2⟩
      · obtain ⟨k1, k2, _⟩ := dt_G_n (e := f) (G := H) (by rw [h]; decide) (by rw [h]; decide) (by rw [h]; decide)
        exact ⟨k1, k2⟩
    have hlb := (dt_lx hf2).mp hl2.2.1
    rw [(hG12 _).1, (hG12 _).2] at hlb
    obtain ⟨hlx, hly, hlz⟩ := hlb
    have sx := dt_lx_st x px.1 (ct_ga G e.2.2.1) G (fun y hy => hy) h0' hlx
    obtain ⟨_, _, m3⟩ := dt_Gm (e := f) (G := ct_ga G e.2.2.1) (H := G) (x := e.2.2.1) (fun y hy => hy)
    dsimp only [dt_e, dt_a, dt_b, dt_c, ct_nd] at h
    change (if 0 < ct_cn e.2.2.1 (ct_fl y) then (if 0 < ct_cn e.2.2.1 (ct_fl z) then none else some (ct_nd f x (ct_nd e a y .leaf) z, n)) else (if 0 < ct_cn e.2.2.1 (ct_fl z) then some (ct_nd f x y (ct_nd e a z .leaf), n) else none)) = some (t2, m) at h
    by_cases hy : 0 < ct_cn e.2.2.1 (ct_fl y)
    · rw [if_pos hy] at h
      by_cases hz : 0 < ct_cn e.2.2.1 (ct_fl z)
      · rw [if_pos hz] at h; cases h
      · rw [if_neg hz] at h
        cases h
        have hwi : dt_w (ct_nd e a y .leaf) := dt_w_re hw pa py dt_w_lf Iff.rfl ⟨fun h => absurd h ly, fun h => absurd h lb⟩ ⟨fun _ => lc, fun _ => rfl⟩
        refine dt_ok_0 (dt_w_re pb px hwi pz Iff.rfl ⟨fun h => absurd h dt_ndl, fun h => absurd h ly⟩ Iff.rfl) dt_ndl (fun q => ?_) ?_
        · rw [dt_ct_nd, dt_ct_nd, dt_ct_nd, dt_ct_nd, dt_ct_lf]; omega
        · rw [dt_lx hf2, (hG12 G).1, (hG12 G).2]
          refine ⟨sx, ?_, dt_lx_st z pz.1 _ _ m3 (by omega) hlz⟩
          rw [dt_lx h2, g1, g2, g3]
          exact ⟨hl2.1, hly, trivial⟩
    · rw [if_neg hy] at h
      by_cases hz : 0 < ct_cn e.2.2.1 (ct_fl z)
      · rw [if_pos hz] at h
        cases h
        have hwi : dt_w (ct_nd e a z .leaf) := dt_w_re hw pa pz dt_w_lf Iff.rfl ⟨fun h => absurd h lz, fun h => absurd h lb⟩ ⟨fun _ => lc, fun _ => rfl⟩
        refine dt_ok_0 (dt_w_re pb px py hwi Iff.rfl Iff.rfl ⟨fun h => absurd h dt_ndl, fun h => absurd h lz⟩) dt_ndl (fun q => ?_) ?_
        · rw [dt_ct_nd, dt_ct_nd, dt_ct_nd, dt_ct_nd, dt_ct_lf]; omega
        · rw [dt_lx hf2, (hG12 G).1, (hG12 G).2]
          refine ⟨sx, dt_lx_st y py.1 (ct_ga G e.2.2.1) G (fun y hy => hy) (by omega) hly, ?_⟩
          obtain ⟨k1, k2, k3⟩ := dt_G_6 (e := e) (G := dt_G3 f G) (Or.inl he)
          rw [dt_lx h2, k1, k2, k3]
          exact ⟨ct_lx_mono _ pa.1 _ _ (fun y hy => (dt_Gs hy).2.2) hl2.1, ct_lx_mono _ pz.1 _ _ m3 hlz, trivial⟩
      · rw [if_neg hz] at h; cases h
  · rw [if_neg h1] at h; cases h
theorem dt_fo_ok (hw : dt_w (ct_nd e a b c)) (hl : ct_lx G (ct_nd e a b c)) (h : dt_fo n e a b c = some (t2, m)) : dt_ok n m G (ct_nd e a b c) t2 := by
  obtain ⟨p1, p2, pa, pb, pc⟩ := dt_w_nd hw
  unfold dt_fo at h
  by_cases h1 : e.1 = 4 ∧ dt_k a = 6 ∧ ct_cn e.2.2.1 (ct_fl (dt_a a)) = 0 ∧ ¬ dt_at (dt_k (dt_a a)) = true ∧ ¬ dt_k (dt_a a) = 4
  · rw [if_pos h1] at h
    cases h
    obtain ⟨he, hk, h0, _, _⟩ := h1
    obtain ⟨la, lb, lc⟩ := ct_q1 hw.1 (Or.inl he)
    have h2 : ¬ e.1 = 2 := by rw [he]; decide
    have hl2 := (dt_lx h2).mp hl
    obtain ⟨g1, g2, g3⟩ := dt_G_4 (e := e) (G := G) (Or.inl he)
    rw [g1] at hl2
    have hla := hl2.1
    rw [dt_nd pa.1 la, dt_lx (by rw [show (dt_e a).1 = 6 from hk]; decide)] at hla
    obtain ⟨k1, k2, k3⟩ := dt_G_6 (e := dt_e a) (G := ct_ga G e.2.2.1) (Or.inl hk)
    rw [k1, k2] at hla
    have pax : ct_wf (dt_a a) ∧ ct_wf (dt_b a) := by
      have := pa.1
      rw [dt_nd pa.1 la] at this
      exact ⟨(ct_wf_nd this).2.2.2.2.1, (ct_wf_nd this).2.2.2.2.2.1⟩
    refine dt_lift_ok hw h2 (by rw [hk]; decide) hl ?_ ?_ (fun y hy => (dt_Gs hy).2.1)
    · rw [(dt_G_6 (e := dt_e a) (G := G) (Or.inl hk)).1]
      exact dt_lx_st _ pax.1 (ct_ga G e.2.2.1) G (fun y hy => hy) h0 hla.1
    · rw [(dt_G_4 (e := e) (Or.inl he)).1, (dt_G_6 (e := dt_e a) (G := G) (Or.inl hk)).2.1]
      exact ct_lx_mono _ pax.2 _ _ (fun y hy => by
        rcases hy with (hy | hy) | hy
        · exact Or.inl (Or.inl hy)
        · exact Or.inr hy
        · exact Or.inl (Or.inr hy)) hla.2.1
  · rw [if_neg h1] at h; cases h
theorem dt_ry_ok (hw : dt_w (ct_nd e a b c)) (hl : ct_lx G (ct_nd e a b c)) (h : dt_ry n e a b = some (t2, m)) : dt_ok n m G (ct_nd e a b c) t2 := by
  obtain ⟨p1, p2, pa, pb, pc⟩ := dt_w_nd hw
  unfold dt_ry at h
  by_cases h1 : e.1 = 6 ∧ dt_k b = 4 ∧ (dt_k a = 1 ∨ dt_k a = 2 ∨ dt_k a = 4)
  · rw [if_pos h1] at h
    cases h
    obtain ⟨he, hk, _⟩ := h1
    obtain ⟨la, lb, lc⟩ := ct_q2 hw.1 (Or.inr (Or.inl he))
    have h2 : ¬ e.1 = 2 := by rw [he]; decide
    have hl2 := (dt_lx h2).mp hl
    obtain ⟨g1, g2, g3⟩ := dt_G_6 (e := e) (G := G) (Or.inl he)
    rw [g1, g2, g3] at hl2
    obtain ⟨f, x, y, z, rfl⟩ := ct_cs pb.1 lb
    have hk' : f.1 = 4 := hk
    obtain ⟨lx, ly, lz⟩ := ct_q1 pb.1 (Or.inl hk')
    obtain ⟨q1, q2, px, py, pz⟩ := dt_w_nd pb
    have hf2 : ¬ f.1 = 2 := by rw [hk']; decide
    have hlb := (dt_lx hf2).mp hl2.2.1
    rw [(dt_G_4 (e := f) (G := ct_ga G e.2.2.1) (Or.inl hk')).1] at hlb
    show dt_ok n n G _ (ct_nd f (ct_nd e a x .leaf) y z)
    have hwi : dt_w (ct_nd e a x .leaf) := dt_w_re hw pa px dt_w_lf Iff.rfl ⟨fun h => absurd h lx, fun h => absurd h lb⟩ ⟨fun _ => lc, fun _ => rfl⟩
    refine dt_ok_0 (dt_w_re pb hwi py pz ⟨fun h => absurd h dt_ndl, fun h => absurd h lx⟩ Iff.rfl Iff.rfl) dt_ndl (fun q => ?_) ?_
    · rw [dt_ct_nd, dt_ct_nd, dt_ct_nd, dt_ct_nd, dt_ct_lf]; omega
    · rw [dt_lx hf2, (dt_G_4 (e := f) (G := G) (Or.inl hk')).1]
      refine ⟨?_, by rw [ly]; trivial, by rw [lz]; trivial⟩
      obtain ⟨k1, k2, k3⟩ := dt_G_6 (e := e) (G := ct_ga G f.2.2.1) (Or.inl he)
      rw [dt_lx h2, k1, k2, k3]
      refine ⟨ct_lx_mono _ pa.1 _ _ (fun y hy => Or.inl hy) hl2.1, ct_lx_mono _ px.1 _ _ (fun y hy => ?_) hlb.1, trivial⟩
      rcases hy with (hy | hy) | hy
      · exact Or.inl (Or.inl hy)
      · exact Or.inr hy
      · exact Or.inl (Or.inr hy)
  · rw [if_neg h1] at h; cases h
theorem dt_sr_ok {nq : ct_T → Nat → Bool} (hw : dt_w (ct_nd e a b c)) (hl : ct_lx G (ct_nd e a b c)) (h : dt_sr nq n e a b = some (t2, m)) : dt_ok n m G (ct_nd e a b c) t2 := by
  obtain ⟨p1, p2, pa, pb, pc⟩ := dt_w_nd hw
  unfold dt_sr at h
  by_cases h1 : e.1 = 6 ∧ nq b e.2.2.1.toNatClampNeg = true
  · rw [if_pos h1] at h
    cases h
    have he := h1.1
    obtain ⟨la, lb, lc⟩ := ct_q2 hw.1 (Or.inr (Or.inl he))
    have h2 : ¬ e.1 = 2 := by rw [he]; decide
    have hl2 := (dt_lx h2).mp hl
    obtain ⟨g1, g2, g3⟩ := dt_G_6 (e := e) (G := G) (Or.inl he)
    rw [g1, g2, g3] at hl2
    have hx := (p1.1 (Or.inr (Or.inr (Or.inl he)))).1
    have ha : ct_ar (8 : Int32) = 2 := by decide +kernel
    refine dt_ok_0 (dt_w_mk (e := (8, 0, e.2.2.1, -1)) (show 1 ≤ (8 : Int32).toInt ∧ (8 : Int32).toInt ≤ 14 by decide) ?_ ?_ ?_ ?_ ?_ pa pb dt_w_lf) dt_ndl (fun q => ?_) ?_
    · show _ ↔ ct_ar 8 < 1
      rw [ha]; exact ⟨fun h => absurd h la, fun h => by omega⟩
    · show _ ↔ ct_ar 8 < 2
      rw [ha]; exact ⟨fun h => absurd h lb, fun h => by omega⟩
    · show _ ↔ ct_ar 8 < 3
      rw [ha]; exact ⟨fun _ => by omega, fun _ => rfl⟩
    · exact ⟨fun _ => ⟨hx, rfl⟩, fun h => absurd h (show ¬ (8 : Int32) = 12 by decide), fun h => absurd (Or.inr (Or.inr (Or.inr (Or.inr (Or.inl rfl))))) h⟩
    · exact ⟨fun h => absurd h (show ¬ (8 : Int32) = 3 by decide), fun h => absurd h (show ¬ (8 : Int32) = 9 by decide), fun h => absurd h (show ¬ (8 : Int32) = 14 by decide), fun _ => rfl⟩
    · rw [dt_ct_nd, dt_ct_nd, dt_oc_4 (e := (8, 0, e.2.2.1, -1)) (Or.inr (Or.inr (Or.inr rfl))), dt_oc_4 (e := e) (Or.inr (Or.inl he)), dt_ct_lf]
      dsimp only
      omega
    · obtain ⟨k1, k2, k3⟩ := dt_G_6 (e := (8, 0, e.2.2.1, -1)) (G := G) (Or.inr rfl)
      rw [dt_lx (show ¬ (8 : Int32) = 2 by decide), k1, k2, k3]
      exact ⟨hl2.1, hl2.2.1, trivial⟩
  · rw [if_neg h1] at h; cases h
theorem dt_rf_in {p : Int32} {f g : Int64} {r : Int32} : ∀ {R : List (Int32 × Int32 × Int32 × Int32)}, dt_rf p f g R = some r → ∃ q, q ∈ R ∧ q.2.2.2 = r
  | [], h => by cases h
  | q :: R, h => by
    unfold dt_rf at h
    split at h
    · cases h
      exact ⟨q, List.mem_cons_self, rfl⟩
    · obtain ⟨q2, h1, h2⟩ := dt_rf_in h
      exact ⟨q2, List.mem_cons_of_mem _ h1, h2⟩
theorem dt_ru_ok {p : Int32} {R : List (Int32 × Int32 × Int32 × Int32)} (hR : ∀ q, q ∈ R → ct_rok q) (hw : dt_w (ct_nd e a b c)) (hl : ct_lx G (ct_nd e a b c)) (h : dt_ru p R n e a b = some (t2, m)) : dt_ok n m G (ct_nd e a b c) t2 := by
  obtain ⟨p1, p2, pa, pb, pc⟩ := dt_w_nd hw
  unfold dt_ru at h
  by_cases h1 : e.1 = 5 ∧ dt_k a = 3 ∧ dt_k b = 5 ∧ dt_k (dt_a b) = 3
  · rw [if_pos h1] at h
    obtain ⟨he, hk, hkb, _⟩ := h1
    cases hr : dt_rf p (dt_e a).2.1 (dt_e (dt_a b)).2.1 R with
    | none => rw [hr] at h; cases h
    | some r =>
      rw [hr] at h
      cases h
      obtain ⟨q, hq1, hq2⟩ := dt_rf_in hr
      have hrok := (hR q hq1).2.2.2
      rw [hq2] at hrok
      obtain ⟨la, lb, lc⟩ := ct_q2 hw.1 (Or.inl he)
      have h2 : ¬ e.1 = 2 := by rw [he]; decide
      have hl2 := (dt_lx h2).mp hl
      obtain ⟨g1, g2, g3⟩ := dt_G_n (e := e) (G := G) (by rw [he]; decide) (by rw [he]; decide) (by rw [he]; decide)
      rw [g1, g2, g3] at hl2
      obtain ⟨f, x, y, z, rfl⟩ := ct_cs pb.1 lb
      have hk' : f.1 = 5 := hkb
      obtain ⟨lx, ly, lz⟩ := ct_q2 pb.1 (Or.inl hk')
      obtain ⟨q1, q2, px, py, pz⟩ := dt_w_nd pb
      have hlb := (dt_lx (by rw [hk']; decide)).mp hl2.2.1
      rw [(dt_G_n (e := f) (G := G) (by rw [hk']; decide) (by rw [hk']; decide) (by rw [hk']; decide)).2.1] at hlb
      have ha : ct_ar (3 : Int32) = 0 := by decide +kernel
      have hg : dt_w (ct_nd (3, r.toInt64, -1, -1) .leaf .leaf .leaf) := by
        refine dt_w_mk (show 1 ≤ (3 : Int32).toInt ∧ (3 : Int32).toInt ≤ 14 by decide) ?_ ?_ ?_ ?_ ?_ dt_w_lf dt_w_lf dt_w_lf
        · show _ ↔ ct_ar 3 < 1
          rw [ha]; exact ⟨fun _ => by omega, fun _ => rfl⟩
        · show _ ↔ ct_ar 3 < 2
          rw [ha]; exact ⟨fun _ => by omega, fun _ => rfl⟩
        · show _ ↔ ct_ar 3 < 3
          rw [ha]; exact ⟨fun _ => by omega, fun _ => rfl⟩
        · exact ⟨fun h => absurd h (show ¬ ((3 : Int32) = 2 ∨ (3 : Int32) = 4 ∨ (3 : Int32) = 6 ∨ (3 : Int32) = 7 ∨ (3 : Int32) = 8) by decide), fun h => absurd h (show ¬ (3 : Int32) = 12 by decide), fun _ => ⟨rfl, rfl⟩⟩
        · exact ⟨fun _ => dt_rok_64 hrok, fun h => absurd h (show ¬ (3 : Int32) = 9 by decide), fun h => absurd h (show ¬ (3 : Int32) = 14 by decide), fun h => absurd (Or.inr (Or.inl rfl)) h⟩
      show dt_ok n n G _ (ct_nd e (ct_nd (3, r.toInt64, -1, -1) .leaf .leaf .leaf) y .leaf)
      refine dt_ok_0 (dt_w_re hw hg py dt_w_lf ⟨fun h => absurd h dt_ndl, fun h => absurd h la⟩ ⟨fun h => absurd h ly, fun h => absurd h lb⟩ ⟨fun _ => lc, fun _ => rfl⟩) dt_ndl (fun q => ?_) ?_
      · rw [dt_ct_nd, dt_ct_nd, dt_ct_nd, dt_ct_nd, dt_oc_n (e := (3, r.toInt64, -1, -1)) (show ¬ ((3 : Int32) = 4 ∨ (3 : Int32) = 6 ∨ (3 : Int32) = 7 ∨ (3 : Int32) = 8) by decide) (show ¬ (3 : Int32) = 12 by decide), dt_ct_lf]
        omega
      · rw [dt_lx h2, g1, g2, g3]
        refine ⟨?_, hlb.2.1, trivial⟩
        rw [dt_lx (show ¬ (3 : Int32) = 2 by decide)]
        exact ⟨trivial, trivial, trivial⟩
  · rw [if_neg h1] at h; cases h
/-- what holds of a node that a pass has done -/
theorem dt_dn_ok {C : Nat → ct_T} {R : List (Int32 × Int32 × Int32 × Int32)} {nq : ct_T → Nat → Bool} {p : Nat} (hC : dt_C C) (hCn : ∀ g x, x ∈ dt_B (C g) → x.toInt < (n : Int)) (hR : ∀ q, q ∈ R → ct_rok q) (hn : n < 2000000000) (hw : dt_w (ct_nd e a b c)) (hbd : dt_bd n (ct_nd e a b c)) (hgc : dt_gc n G (ct_nd e a b c)) (hl : ct_lx G (ct_nd e a b c)) (hsz : ct_sz a ≤ 150) (hsz2 : ct_sz b ≤ 150) (h : dt_dn C R nq p n e a b c = some (t2, m)) : dt_ok n m G (ct_nd e a b c) t2 := by
  unfold dt_dn at h
  by_cases h0 : p = 0
  · rw [if_pos h0] at h
    unfold dt_si at h
    by_cases k5 : e.1 = 5
    · rw [if_pos k5] at h
      exact dt_ap_ok hC hCn hn hw k5 hl h
    rw [if_neg k5] at h
    by_cases k6 : e.1 = 6
    · rw [if_pos k6] at h
      exact dt_le_ok hn hw k6 hbd hgc hl hsz hsz2 h
    rw [if_neg k6] at h
    by_cases k12 : e.1 = 12
    · rw [if_pos k12] at h
      exact dt_ma_ok hw k12 hl h
    rw [if_neg k12] at h
    by_cases k13 : e.1 = 13
    · rw [if_pos k13] at h
      exact dt_te_ok hw k13 hl h
    rw [if_neg k13] at h
    by_cases k9 : e.1 = 9
    · rw [if_pos k9] at h
      exact dt_pr_ok h
    rw [if_neg k9] at h
    cases h
  rw [if_neg h0] at h
  by_cases h1 : p = 1
  · rw [if_pos h1] at h
    exact dt_fi_ok hw hl h
  rw [if_neg h1] at h
  by_cases h2 : p = 2
  · rw [if_pos h2] at h
    exact dt_fo_ok hw hl h
  rw [if_neg h2] at h
  by_cases h3 : p = 3
  · rw [if_pos h3] at h
    exact dt_ry_ok hw hl h
  rw [if_neg h3] at h
  by_cases h4 : p = 4
  · rw [if_pos h4] at h
    exact dt_sr_ok hw hl h
  rw [if_neg h4] at h
  exact dt_ru_ok hR hw hl h
end DT92
