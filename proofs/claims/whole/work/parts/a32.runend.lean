/-! ## a32 the run machine: a value is shown, and what comes behind it -/
section DMa32
variable {A0 S0 : cm_S} {V : Nat → ct_T} {G : dm_Gs} {nc ne nv st lim wc sh dd : Nat}
theorem dw_shown (hM : dm_M A0 S0 V G nc ne 0 nv) (hH : dm_H A0 S0 nc st lim wc sh) (hr : dm_rA A0 S0 dd 0 sh nc ∨ dm_r2 A0 S0 dd 0 sh nc) (hon : dw_on A0 S0) (hmg : dm_mg A0 S0 V G ne nc nv) (hnc : nc ≤ 8009) (hnv : nv < 8192) (hwc : wc ≤ sh) (hsh : sh ≤ 20) :
    (∃ A1 S1 wc1, dw_c 60 6 [some (.ref 57), none, none] A0 A1 ∧ dw_c 262 3 [some (.ref 83), none] S0 S1 ∧ cf_W dw_WA A0 A1 ∧ cf_W dw_WS S0 S1 ∧ wc1 ≤ sh + 1 ∧ sh + 1 ≤ 20 ∧ dw_go A1 S1 V st lim wc1 (sh + 1) dd nc ne nv 1 1) ∨
    (∃ A1 S1 o, o ≤ 2 ∧ dw_c 60 6 [some (.ref 57), none, none] A0 A1 ∧ (∀ (L : Nat) (xs : Nat → Int32) (d : Nat) (K : cm_K) (q1 : Int32), K (.inl (some (.int (Int32.ofNat o)))) S1 0 → cm_At (am_XX L xs) (d + 4) 263 15 [some (.ref 83), some (.int q1)] [] S0 K) ∧ cf_W dw_WA A0 A1 ∧ cf_W dw_WS S0 S1 ∧ A1.1 57 6 = Int32.ofNat o ∧ S1.1 83 40 = Int32.ofNat o ∧ dm_P A1 S1 V G nc ne 0 nv st lim 0 sh dd) := by
  obtain ⟨r1, r2, r3, r4, r5⟩ := dw_root hr hM hnv
  obtain ⟨h57, h63, v, hvn, hgv, hvl⟩ := hmg
  obtain ⟨A1, S1, wc1, kA, kS, fA, fS, hw1, h65, p1⟩ := dw_sw hM hH hnc hnv (by omega) r1 r2 r3 r4 r5 hvn hgv hvl
  have hon1 : dw_on A1 S1 := ⟨(fA 57 6 (decide_eq_false (by omega))).1.trans hon.1, (fS 83 40 (decide_eq_false (by omega))).1.trans hon.2⟩
  have fAw : cf_W dw_WA A0 A1 := cf_mono fA (fun b j h => decide_eq_true (by have h := of_decide_eq_true h; omega))
  have fSw : cf_W dw_WS S0 S1 := cf_mono fS (fun b j h => decide_eq_true (by have h := of_decide_eq_true h; omega))
  have h9 := p1.1.2.1
  obtain ⟨q1, q2, q3, q4⟩ := id p1.2.2
  have q5 : ¬ S1.1 83 44 = -1 ∧ S1.1 83 44 = S1.1 116 dd := by
    rcases q4 with ⟨_, _, h5, _⟩ | ⟨h5, h6, _⟩
    · omega
    · exact ⟨h5, h6⟩
  obtain ⟨g1, g2, g3, g4, g5, g6, g7, g8, g9, g10, g11⟩ := id p1.2.1
  by_cases hend : wc1 = 0 ∨ 20 ≤ sh
  · refine Or.inr ?_
    have hmm : dm_mc dd = dd := by unfold dm_mc; rw [if_pos (by omega)]
    have hcl := p1.1.2.2.2.2.2.2.2.2.2.2.1 dd (by omega) (by omega)
    have hv2 : ∃ v2, v2 < nv ∧ S1.1 116 dd = Int32.ofNat v2 ∧ dm_vl A1 S1 V G ne nc (A1.1 65 dd) (A1.1 66 dd) (A1.1 67 dd) (A1.2 68 dd) v2 := by
      have hn : ¬ S1.1 116 dd = -1 := by rw [← q5.2]; exact q5.1
      unfold dm_cl at hcl
      rw [hmm] at hcl
      rcases hcl with ⟨_, _, _, h2, _⟩ | ⟨_, _, _, h2, _⟩ | ⟨_, h2, _⟩ | ⟨v2, h1, h2, h3, _⟩
      · exact absurd h2 hn
      · exact absurd h2 hn
      · exact absurd h2 hn
      · exact ⟨v2, h1, h2, h3⟩
    obtain ⟨v2, hv2n, h116, hvl2⟩ := hv2
    have fP : cf_W (fun b j => decide (b = 77 ∧ (j = 1 ∨ j = 3))) A1 (cm_wI (de_prs wc1 A1) 77 1 0) := cf_tr (cf_mono (de_prs_cf wc1 A1) (fun b j h => decide_eq_true (by have h := of_decide_eq_true h; omega))) (cf_wI (decide_eq_true (by omega)))
    have hcls : ∃ o, o ≤ 2 ∧ S1.1 121 v2 = Int32.ofNat o ∧ dw_c 60 6 [some (.ref 57), none, none] A0 (cm_wI (cm_wI (de_prs wc1 A1) 77 1 0) 57 6 (Int32.ofNat o)) := by
      have hstep : ∀ (L : Nat) (xs : Nat → Int32) (d : Nat) (K : cm_K), (A1.1 65 dd = 1 → K (.inl none) (cm_wI (cm_wI (de_prs wc1 A1) 77 1 0) 57 6 0) 0) → (¬ A1.1 65 dd = 1 → (A1.1 65 dd = 4 → K (.inl none) (cm_wI (cm_wI (de_prs wc1 A1) 77 1 0) 57 6 1) 0) ∧ (¬ A1.1 65 dd = 4 → K (.inl none) (cm_wI (cm_wI (de_prs wc1 A1) 77 1 0) 57 6 2) 0)) → cm_At (am_XX L xs) (d + 6) 60 0 [some (.ref 57), none, none] [] A0 K := by
        intro L xs d K k1 k2
        refine cx_60_0 ?_
        refine kA L xs (d + 1) _ (cp_r0 ?_)
        refine cp_111n g5 (by omega) g7 (by omega) hend (cp_r1 ?_)
        refine ⟨fun _ => ?_, fun hc => absurd rfl hc⟩
        refine cx_112_0 ?_
        refine cp_112l wc1 0 A1 _ (by omega) (by rw [Nat.zero_add]; exact g5) (cp_r0 ?_)
        intro x1 hx1
        rw [hx1, (fP 57 5 (decide_eq_false (by omega))).1, q1]
        refine cp_116 (nc := nc) ((fP 64 4 (decide_eq_false (by omega))).1.trans p1.1.2.2.1) hnc (by omega) (cp_r1 ?_)
        rw [(fP 65 dd (decide_eq_false (by omega))).1]
        refine ⟨fun hc => ?_, fun hc => ⟨fun hc2 => ?_, fun hc2 => ?_⟩⟩
        · intro S2 h2
          rw [h2]
          exact k1 hc
        · intro S2 h2
          rw [h2]
          exact (k2 hc).1 hc2
        · intro S2 h2
          rw [h2]
          exact (k2 hc).2 hc2
      obtain ⟨t1, t2, t3⟩ := dw_tags hvl2
      by_cases e1 : A1.1 65 dd = 1
      · exact ⟨0, by omega, t2.mp e1, fun L xs d K k => hstep L xs d K (fun _ => k) (fun hc => absurd e1 hc)⟩
      by_cases e4 : A1.1 65 dd = 4
      · exact ⟨1, by omega, t1.mp e4, fun L xs d K k => hstep L xs d K (fun hc => absurd hc e1) (fun _ => ⟨fun _ => k, fun hc => absurd e4 hc⟩)⟩
      refine ⟨2, by omega, t3.mp ?_, fun L xs d K k => hstep L xs d K (fun hc => absurd hc e1) (fun _ => ⟨fun hc => absurd hc e4, fun _ => k⟩)⟩
      rcases hvl2 with ⟨h, _⟩ | ⟨h, _⟩ | ⟨h, _⟩ | ⟨h, _⟩
      · exact absurd h e1
      · exact absurd h e4
      · exact Or.inl h
      · exact Or.inr h
    obtain ⟨o, ho, h121, c1⟩ := hcls
    obtain ⟨m1, m2, m3⟩ := me_drs_at (o := Int32.ofNat o) wc1 S1 g6
    have fD := me_drs_cf (o := Int32.ofNat o) wc1 S1
    have fP2 : cf_W (fun b j => decide (b = 77 ∧ (j = 1 ∨ j = 3) ∨ b = 57 ∧ j = 6)) A1 (cm_wI (cm_wI (de_prs wc1 A1) 77 1 0) 57 6 (Int32.ofNat o)) := cf_tr (cf_mono fP (fun b j h => decide_eq_true (by have h := of_decide_eq_true h; omega))) (cf_wI (decide_eq_true (by omega)))
    refine ⟨_, me_drs wc1 (Int32.ofNat o) S1, o, ho, c1, fun L xs d K q1 k => ?_, cf_tr fAw (cf_mono fP2 (fun b j h => decide_eq_true (by have h := of_decide_eq_true h; omega))), cf_tr fSw (cf_mono fD (fun b j h => decide_eq_true (by have h := of_decide_eq_true h; omega))), by rw [cp_wI1, if_pos ⟨rfl, rfl⟩], m1, dm_M_cf fP2 fD (fun b j hb => decide_eq_false (by omega)) (fun b j hb => decide_eq_false (by omega)) (decide_eq_false (by omega)) (decide_eq_false (by omega)) (decide_eq_false (by omega)) (decide_eq_false (by omega)) (decide_eq_false (by omega)) (decide_eq_false (by omega)) (decide_eq_false (by omega)) p1.1, ⟨(fP2 _ _ (decide_eq_false (by omega))).1.trans g1, (fD _ _ (decide_eq_false (by omega))).1.trans g2, (fP2 _ _ (decide_eq_false (by omega))).1.trans g3, (fD _ _ (decide_eq_false (by omega))).1.trans g4, by rw [cp_wI1, if_neg (by omega), cp_wI1, if_pos ⟨rfl, rfl⟩]; rfl, m2, (fP2 _ _ (decide_eq_false (by omega))).1.trans g7, (fD _ _ (decide_eq_false (by omega))).1.trans g8, ?_, fun i hi => absurd hi (Nat.not_lt_zero i), fun i hi => ?_⟩, dm_rA_cf fP2 fD (fun b j hb => decide_eq_false (by omega)) (fun b j hb => decide_eq_false (by omega)) p1.2.2⟩
    · refine cx_263_15 _ ?_
      intro x1 h1
      rw [h1, hon.2]
      refine ⟨fun _ => ?_, fun hc => absurd rfl hc⟩
      intro x2 h2
      rw [h2, h63]
      refine ⟨fun _ => ?_, fun hc => absurd rfl hc⟩
      intro x3 h3
      rw [h3]
      refine ⟨fun _ => ?_, fun hc => absurd rfl hc⟩
      intro x4 h4
      rw [h4, hM.2.2.2.2.2.2.2.1]
      refine ⟨fun hc => absurd hc (by decide), fun _ => ?_⟩
      refine kS L xs d _ (fun o1 => ?_)
      exact dw_dr ho (by omega) wc1 S1 (by omega) g6 (hend.imp id (fun hx => by rw [g8]; congr 1; omega)) h65 hon1.2 ((fS 83 63 (decide_eq_false (by omega))).1.trans h63) ((fS 83 59 (decide_eq_false (by omega))).1.trans hM.2.2.2.2.2.2.2.1) (q5.2.trans h116) h121 L xs d K q1 o1 k
    · rw [m3, cp_wI2, cp_wI2, de_prs_at, g9]
    · rw [(fP2 79 i (decide_eq_false (by omega))).1, (fD 128 i (decide_eq_false (by omega))).1]; exact g11 i hi
  · refine Or.inl ?_
    obtain ⟨w, rfl⟩ : ∃ w, wc1 = w + 1 := ⟨wc1 - 1, by omega⟩
    obtain ⟨e129, hcr⟩ := g10 w (by omega)
    have fA2 : cf_W (fun b j => decide (b = 77 ∧ (j = 1 ∨ j = 2))) A1 (cm_wI (cm_wI A1 77 2 (Int32.ofNat (sh + 1))) 77 1 (Int32.ofNat w)) := cf_tr (cf_wI (decide_eq_true (by omega))) (cf_wI (decide_eq_true (by omega)))
    have fS2 : cf_W (fun b j => decide (b = 83 ∧ (j = 67 ∨ j = 68))) S1 (cm_wI (cm_wI S1 83 68 (Int32.ofNat w)) 83 67 (Int32.ofNat (sh + 1))) := cf_tr (cf_wI (decide_eq_true (by omega))) (cf_wI (decide_eq_true (by omega)))
    have p2 : dm_P (cm_wI (cm_wI A1 77 2 (Int32.ofNat (sh + 1))) 77 1 (Int32.ofNat w)) (cm_wI (cm_wI S1 83 68 (Int32.ofNat w)) 83 67 (Int32.ofNat (sh + 1))) V G nc ne 0 nv st lim w (sh + 1) dd := by
      refine ⟨dm_M_cf fA2 fS2 (fun b j hb => decide_eq_false (by omega)) (fun b j hb => decide_eq_false (by omega)) (decide_eq_false (by omega)) (decide_eq_false (by omega)) (decide_eq_false (by omega)) (decide_eq_false (by omega)) (decide_eq_false (by omega)) (decide_eq_false (by omega)) (decide_eq_false (by omega)) p1.1, ⟨(fA2 _ _ (decide_eq_false (by omega))).1.trans g1, (fS2 _ _ (decide_eq_false (by omega))).1.trans g2, (fA2 _ _ (decide_eq_false (by omega))).1.trans g3, (fS2 _ _ (decide_eq_false (by omega))).1.trans g4, by rw [cp_wI1, if_pos ⟨rfl, rfl⟩], by rw [cp_wI1, if_neg (by omega), cp_wI1, if_pos ⟨rfl, rfl⟩], by rw [cp_wI1, if_neg (by omega), cp_wI1, if_pos ⟨rfl, rfl⟩], by rw [cp_wI1, if_pos ⟨rfl, rfl⟩], ?_, fun i hi => ?_, fun i hi => ?_⟩, ?_⟩
      · rw [(fA2 77 3 (decide_eq_false (by omega))).2, (fS2 83 71 (decide_eq_false (by omega))).2]; exact g9
      · rw [(fA2 78 i (decide_eq_false (by omega))).1, (fS2 129 i (decide_eq_false (by omega))).1]; exact g10 i (by omega)
      · rw [(fA2 79 i (decide_eq_false (by omega))).1, (fS2 128 i (decide_eq_false (by omega))).1]; exact g11 i hi
      · refine ⟨(fA2 _ _ (decide_eq_false (by omega))).1.trans q1, q2, ⟨by rw [(fA2 65 dd (decide_eq_false (by omega))).1]; exact q3.1, fun m2 hm2 hm3 hb => by rw [(fA2 65 m2 (decide_eq_false (by omega))).1] at hb; obtain ⟨i, i1, _⟩ := q3.2 m2 hm2 hm3 hb; omega⟩, Or.inr ⟨by rw [(fS2 83 44 (decide_eq_false (by omega))).1]; exact q5.1, by rw [(fS2 83 44 (decide_eq_false (by omega))).1, (fS2 116 dd (decide_eq_false (by omega))).1]; exact q5.2, fun i hi => absurd hi (Nat.not_lt_zero i)⟩⟩
    have hon2 : dw_on (cm_wI (cm_wI A1 77 2 (Int32.ofNat (sh + 1))) 77 1 (Int32.ofNat w)) (cm_wI (cm_wI S1 83 68 (Int32.ofNat w)) 83 67 (Int32.ofNat (sh + 1))) := ⟨(fA2 57 6 (decide_eq_false (by omega))).1.trans hon1.1, (fS2 83 40 (decide_eq_false (by omega))).1.trans hon1.2⟩
    obtain ⟨A3, S3, c1, c2, f1, f2, go⟩ := dw_asks p2 hon2 hnc (by omega) (by omega) (dw_cr p2.1 hcr)
    have hcm : ¬ A1.1 78 w = -1 := by
      obtain ⟨m, hm1, hm2, hm3⟩ := hcr
      rw [hm3]
      exact cp_m1 (by omega)
    refine ⟨A3, S3, w, fun L xs d K k => ?_, fun L xs d K k => ?_, cf_tr fAw (cf_tr (cf_mono fA2 (fun b j h => decide_eq_true (by have h := of_decide_eq_true h; omega))) f1), cf_tr fSw (cf_tr (cf_mono fS2 (fun b j h => decide_eq_true (by have h := of_decide_eq_true h; omega))) f2), by omega, by omega, dw_go_mo go (Nat.le_refl _) (Nat.le_refl _) (Nat.le_refl _) (Nat.le_refl _) (Nat.le_refl _)⟩
    · refine cx_60_0 ?_
      refine kA L xs (d + 1) _ (cp_r0 ?_)
      refine cp_111y g5 g7 (by omega) (by omega) (cp_r1 ?_)
      refine ⟨fun hc => absurd hc hcm, fun _ => ?_⟩
      refine c1 L xs d _ (cp_r0 ?_)
      exact k
    · refine kS L xs d K (fun o1 => ?_)
      refine cp_176y g6 g8 (by omega) (by omega) e129 ?_
      exact c2 L xs d _ (cp_r0 k)
end DMa32
