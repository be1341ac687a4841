/-! ## a15 the model goes through a tree -/
set_option maxRecDepth 100000
set_option maxHeartbeats 4000000
theorem cw_230_0 {P : cm_P} {L : Nat} {xs : Nat → Int32} {d : Nat} {S : cm_S} {K : cm_K} (p0 : Int32) (p1 : Int32) (h : (p1 = (-1 : Int32) → (P (d + 1) 230 12 [some (.ref 83), some (.int p0), some (.int p1), none] [] S K)) ∧ (¬ p1 = (-1 : Int32) → (∀ x1, x1 = S.1 83 32 → ((x1 = 0 → (am_in p1 8192 ∧ ∀ x2, x2 = S.1 94 p1.toNatClampNeg → (P d 230 0 [some (.ref 83), some (.int p0), some (.int x2), none] [] S (fun r S3 k4 => cm_r1 (fun x6 => am_in p1 8192 ∧ ∀ S7, S7 = cm_wI S3 94 p1.toNatClampNeg x6 → (am_in p1 8192 ∧ ∀ x8, x8 = S7.1 95 p1.toNatClampNeg → (P d 230 0 [some (.ref 83), some (.int p0), some (.int x8), none] [] S7 (fun r S9 k10 => cm_r1 (fun x12 => am_in p1 8192 ∧ ∀ S13, S13 = cm_wI S9 95 p1.toNatClampNeg x12 → (am_in p1 8192 ∧ ∀ x14, x14 = S13.1 96 p1.toNatClampNeg → (P d 230 0 [some (.ref 83), some (.int p0), some (.int x14), none] [] S13 (fun r S15 k16 => cm_r1 (fun x18 => am_in p1 8192 ∧ ∀ S19, S19 = cm_wI S15 96 p1.toNatClampNeg x18 → (∀ x20, x20 = S19.1 83 32 → ((x20 = 0 → (P d 229 0 [some (.ref 83), some (.int p0), some (.int p1)] [] S19 (fun r S21 k22 => cm_r1 (fun x24 => P (d + 1) 230 83 [some (.ref 83), some (.int p0), some (.int p1), some (.int x24)] [] S21 (cm_sh (cm_sh (cm_sh (cm_sh K k4) k10) k16) k22)) (fun e23 => (cm_sh (cm_sh (cm_sh K k4) k10) k16) (.inr e23) S21 k22) r))) ∧ (¬ x20 = 0 → (P (d + 1) 230 83 [some (.ref 83), some (.int p0), some (.int p1), some (.int (-1 : Int32))] [] S19 (cm_sh (cm_sh (cm_sh K k4) k10) k16)))))) (fun e17 => (cm_sh (cm_sh K k4) k10) (.inr e17) S15 k16) r)))) (fun e11 => (cm_sh K k4) (.inr e11) S9 k10) r)))) (fun e5 => K (.inr e5) S3 k4) r)))) ∧ (¬ x1 = 0 → (P (d + 1) 230 12 [some (.ref 83), some (.int p0), some (.int p1), none] [] S K)))))) : cm_st P (am_XX L xs) d cb_230 [] (cm_go P (am_XX L xs) d 230 cb_230 [] [12, 83, 113] 400) 0 [some (.ref 83), some (.int p0), some (.int p1), none] [] S K := h
theorem cz_230_0 {L : Nat} {xs : Nat → Int32} {d : Nat} {S : cm_S} {K : cm_K} (p0 : Int32) (p1 : Int32) (h : (p1 = (-1 : Int32) → (cm_At (am_XX L xs) (d + 1) 230 12 [some (.ref 83), some (.int p0), some (.int p1), none] [] S K)) ∧ (¬ p1 = (-1 : Int32) → (∀ x1, x1 = S.1 83 32 → ((x1 = 0 → (am_in p1 8192 ∧ ∀ x2, x2 = S.1 94 p1.toNatClampNeg → (cm_At (am_XX L xs) d 230 0 [some (.ref 83), some (.int p0), some (.int x2), none] [] S (fun r S3 k4 => cm_r1 (fun x6 => am_in p1 8192 ∧ ∀ S7, S7 = cm_wI S3 94 p1.toNatClampNeg x6 → (am_in p1 8192 ∧ ∀ x8, x8 = S7.1 95 p1.toNatClampNeg → (cm_At (am_XX L xs) d 230 0 [some (.ref 83), some (.int p0), some (.int x8), none] [] S7 (fun r S9 k10 => cm_r1 (fun x12 => am_in p1 8192 ∧ ∀ S13, S13 = cm_wI S9 95 p1.toNatClampNeg x12 → (am_in p1 8192 ∧ ∀ x14, x14 = S13.1 96 p1.toNatClampNeg → (cm_At (am_XX L xs) d 230 0 [some (.ref 83), some (.int p0), some (.int x14), none] [] S13 (fun r S15 k16 => cm_r1 (fun x18 => am_in p1 8192 ∧ ∀ S19, S19 = cm_wI S15 96 p1.toNatClampNeg x18 → (∀ x20, x20 = S19.1 83 32 → ((x20 = 0 → (cm_At (am_XX L xs) d 229 0 [some (.ref 83), some (.int p0), some (.int p1)] [] S19 (fun r S21 k22 => cm_r1 (fun x24 => cm_At (am_XX L xs) (d + 1) 230 83 [some (.ref 83), some (.int p0), some (.int p1), some (.int x24)] [] S21 (cm_sh (cm_sh (cm_sh (cm_sh K k4) k10) k16) k22)) (fun e23 => (cm_sh (cm_sh (cm_sh K k4) k10) k16) (.inr e23) S21 k22) r))) ∧ (¬ x20 = 0 → (cm_At (am_XX L xs) (d + 1) 230 83 [some (.ref 83), some (.int p0), some (.int p1), some (.int (-1 : Int32))] [] S19 (cm_sh (cm_sh (cm_sh K k4) k10) k16)))))) (fun e17 => (cm_sh (cm_sh K k4) k10) (.inr e17) S15 k16) r)))) (fun e11 => (cm_sh K k4) (.inr e11) S9 k10) r)))) (fun e5 => K (.inr e5) S3 k4) r)))) ∧ (¬ x1 = 0 → (cm_At (am_XX L xs) (d + 1) 230 12 [some (.ref 83), some (.int p0), some (.int p1), none] [] S K)))))) : cm_At (am_XX L xs) (d + 1) 230 0 [some (.ref 83), some (.int p0), some (.int p1), none] [] S K := cm_go1 (show am_TT 230 = some (am_B230, 4, []) from rfl) cb_230_ok (cw_230_0 (P := cm_At (am_XX L xs)) p0 p1 h)
theorem cw_230_12 {P : cm_P} {L : Nat} {xs : Nat → Int32} {d : Nat} {S : cm_S} {K : cm_K} (q1 : Int32) (q2 : Int32) (h : K (.inl (some (.int q2))) S 0) : cm_st P (am_XX L xs) d cb_230 [] (cm_go P (am_XX L xs) d 230 cb_230 [] [12, 83, 113] 400) 12 [some (.ref 83), some (.int q1), some (.int q2), none] [] S K := h
theorem cz_230_12 {L : Nat} {xs : Nat → Int32} {d : Nat} {S : cm_S} {K : cm_K} (q1 : Int32) (q2 : Int32) (h : K (.inl (some (.int q2))) S 0) : cm_At (am_XX L xs) (d + 1) 230 12 [some (.ref 83), some (.int q1), some (.int q2), none] [] S K := cm_go1 (show am_TT 230 = some (am_B230, 4, []) from rfl) cb_230_ok (cw_230_12 (P := cm_At (am_XX L xs)) q1 q2 h)
theorem cw_230_83 {P : cm_P} {L : Nat} {xs : Nat → Int32} {d : Nat} {S : cm_S} {K : cm_K} (q1 : Int32) (q2 : Int32) (q3 : Int32) (h : ∀ x1, x1 = S.1 83 31 → ((q3 = (-1 : Int32) → (∀ S3, S3 = cm_wI S 83 31 (x1 + (0 : Int32)) → ((q3 = (-1 : Int32) → (P (d + 1) 230 113 [some (.ref 83), some (.int q1), some (.int q2), some (.int q2)] [] S3 K)) ∧ (¬ q3 = (-1 : Int32) → (P (d + 1) 230 113 [some (.ref 83), some (.int q1), some (.int q2), some (.int q3)] [] S3 K))))) ∧ (¬ q3 = (-1 : Int32) → (∀ S2, S2 = cm_wI S 83 31 (x1 + (1 : Int32)) → ((q3 = (-1 : Int32) → (P (d + 1) 230 113 [some (.ref 83), some (.int q1), some (.int q2), some (.int q2)] [] S2 K)) ∧ (¬ q3 = (-1 : Int32) → (P (d + 1) 230 113 [some (.ref 83), some (.int q1), some (.int q2), some (.int q3)] [] S2 K))))))) : cm_st P (am_XX L xs) d cb_230 [] (cm_go P (am_XX L xs) d 230 cb_230 [] [12, 83, 113] 400) 83 [some (.ref 83), some (.int q1), some (.int q2), some (.int q3)] [] S K := h
theorem cz_230_83 {L : Nat} {xs : Nat → Int32} {d : Nat} {S : cm_S} {K : cm_K} (q1 : Int32) (q2 : Int32) (q3 : Int32) (h : ∀ x1, x1 = S.1 83 31 → ((q3 = (-1 : Int32) → (∀ S3, S3 = cm_wI S 83 31 (x1 + (0 : Int32)) → ((q3 = (-1 : Int32) → (cm_At (am_XX L xs) (d + 1) 230 113 [some (.ref 83), some (.int q1), some (.int q2), some (.int q2)] [] S3 K)) ∧ (¬ q3 = (-1 : Int32) → (cm_At (am_XX L xs) (d + 1) 230 113 [some (.ref 83), some (.int q1), some (.int q2), some (.int q3)] [] S3 K))))) ∧ (¬ q3 = (-1 : Int32) → (∀ S2, S2 = cm_wI S 83 31 (x1 + (1 : Int32)) → ((q3 = (-1 : Int32) → (cm_At (am_XX L xs) (d + 1) 230 113 [some (.ref 83), some (.int q1), some (.int q2), some (.int q2)] [] S2 K)) ∧ (¬ q3 = (-1 : Int32) → (cm_At (am_XX L xs) (d + 1) 230 113 [some (.ref 83), some (.int q1), some (.int q2), some (.int q3)] [] S2 K))))))) : cm_At (am_XX L xs) (d + 1) 230 83 [some (.ref 83), some (.int q1), some (.int q2), some (.int q3)] [] S K := cm_go1 (show am_TT 230 = some (am_B230, 4, []) from rfl) cb_230_ok (cw_230_83 (P := cm_At (am_XX L xs)) q1 q2 q3 h)
theorem cw_230_113 {P : cm_P} {L : Nat} {xs : Nat → Int32} {d : Nat} {S : cm_S} {K : cm_K} (q1 : Int32) (q2 : Int32) (q3 : Int32) (h : ∀ x1, x1 = S.1 83 32 → ((x1 = 0 → (P d 204 0 [some (.ref 83), some (.int q3)] [] S (fun r S3 k4 => cm_r1 (fun x6 => ((150 : Int32) < x6 → (((1 : Int32) = 0 ∨ (1 : Int32) = 1) ∧ ∀ S8, S8 = cm_wI S3 83 32 (1 : Int32) → ((cm_sh K k4) (.inl (some (.int q3))) S8 0))) ∧ (¬ (150 : Int32) < x6 → (((0 : Int32) = 0 ∨ (0 : Int32) = 1) ∧ ∀ S7, S7 = cm_wI S3 83 32 (0 : Int32) → ((cm_sh K k4) (.inl (some (.int q3))) S7 0)))) (fun e5 => K (.inr e5) S3 k4) r))) ∧ (¬ x1 = 0 → (((1 : Int32) = 0 ∨ (1 : Int32) = 1) ∧ ∀ S2, S2 = cm_wI S 83 32 (1 : Int32) → (K (.inl (some (.int q3))) S2 0))))) : cm_st P (am_XX L xs) d cb_230 [] (cm_go P (am_XX L xs) d 230 cb_230 [] [12, 83, 113] 400) 113 [some (.ref 83), some (.int q1), some (.int q2), some (.int q3)] [] S K := h
theorem cz_230_113 {L : Nat} {xs : Nat → Int32} {d : Nat} {S : cm_S} {K : cm_K} (q1 : Int32) (q2 : Int32) (q3 : Int32) (h : ∀ x1, x1 = S.1 83 32 → ((x1 = 0 → (cm_At (am_XX L xs) d 204 0 [some (.ref 83), some (.int q3)] [] S (fun r S3 k4 => cm_r1 (fun x6 => ((150 : Int32) < x6 → (((1 : Int32) = 0 ∨ (1 : Int32) = 1) ∧ ∀ S8, S8 = cm_wI S3 83 32 (1 : Int32) → ((cm_sh K k4) (.inl (some (.int q3))) S8 0))) ∧ (¬ (150 : Int32) < x6 → (((0 : Int32) = 0 ∨ (0 : Int32) = 1) ∧ ∀ S7, S7 = cm_wI S3 83 32 (0 : Int32) → ((cm_sh K k4) (.inl (some (.int q3))) S7 0)))) (fun e5 => K (.inr e5) S3 k4) r))) ∧ (¬ x1 = 0 → (((1 : Int32) = 0 ∨ (1 : Int32) = 1) ∧ ∀ S2, S2 = cm_wI S 83 32 (1 : Int32) → (K (.inl (some (.int q3))) S2 0))))) : cm_At (am_XX L xs) (d + 1) 230 113 [some (.ref 83), some (.int q1), some (.int q2), some (.int q3)] [] S K := cm_go1 (show am_TT 230 = some (am_B230, 4, []) from rfl) cb_230_ok (cw_230_113 (P := cm_At (am_XX L xs)) q1 q2 q3 h)
/-- copies of closed trees, whatever their names -/
theorem dt_cp_er0 {t : ct_T} (hw : dt_w t) {n : Nat} (hl : ct_lx (fun _ => False) t) (hn : n + dt_nb t < 2147483648) : ct_bi (fun x y => y = ct_fr n (dt_B t) x ∧ (x = -1 ∨ x ∈ dt_B t)) ∧ ct_er (fun x y => y = ct_fr n (dt_B t) x ∧ (x = -1 ∨ x ∈ dt_B t)) t (dt_cp n t) := by
  have hm1 := dt_B_m1 hw.2.1
  have hf1 : ct_fr n (dt_B t) (-1) = -1 := dt_fr_no hm1
  have hin : ∀ x, x ∈ dt_B t → ct_fr n (dt_B t) x = Int32.ofNat (n + ct_ix x (dt_B t)) ∧ n + ct_ix x (dt_B t) < 2147483648 := fun x hx => by
    have := ct_ix_lt hx
    unfold dt_nb at hn
    exact ⟨dt_fr_in hx, by omega⟩
  refine ⟨⟨fun x y z hy hz => by rw [hy.1, hz.1], fun x y z hx hy => ?_⟩, ?_⟩
  · have h1 : ct_fr n (dt_B t) x = ct_fr n (dt_B t) y := hx.1.symm.trans hy.1
    rcases hx.2 with hx2 | hxb <;> rcases hy.2 with hy2 | hyb
    · rw [hx2, hy2]
    · rw [hx2, hf1, (hin y hyb).1] at h1
      exact absurd h1.symm (cp_m1 (hin y hyb).2)
    · rw [hy2, hf1, (hin x hxb).1] at h1
      exact absurd h1 (cp_m1 (hin x hxb).2)
    · obtain ⟨a1, a2⟩ := hin x hxb
      obtain ⟨b1, b2⟩ := hin y hyb
      rw [a1, b1, cp_inj a2 b2] at h1
      exact ct_ix_inj hxb hyb (by omega)
  · have hN := dt_nm hw hl
    have h0 := ct_er_self (f := ct_fr n (dt_B t)) hf1 t hw.1 (fun e he => by
      have g : ∀ x, (¬ x = -1 → ¬ ct_fr n (dt_B t) x = -1) := fun x hne => by
        by_cases hx : x ∈ dt_B t
        · obtain ⟨a1, a2⟩ := hin x hx
          rw [a1]; exact cp_m1 a2
        · rw [dt_fr_no hx]; exact hne
      exact ⟨g _, g _⟩)
    refine ct_er_rs (N := fun x => x = -1 ∨ x ∈ dt_B t) t hw.1 _ (ct_map_wf t hw.1) (fun e he => ⟨?_, ?_⟩) h0
    · rcases (hN e he).1 with h | h | h
      · exact Or.inl h
      · exact h.elim
      · exact Or.inr h
    · rcases (hN e he).2 with h | h
      · exact Or.inl h
      · exact Or.inr h
theorem dt_cp_w0 {t : ct_T} (hw : dt_w t) {n : Nat} (hl : ct_lx (fun _ => False) t) (hn : n + dt_nb t < 2147483648) : dt_w (dt_cp n t) ∧ ct_lx (fun _ => False) (dt_cp n t) ∧ (dt_cp n t = .leaf ↔ t = .leaf) ∧ ct_sz (dt_cp n t) = ct_sz t := by
  obtain ⟨h1, h2⟩ := dt_cp_er0 hw hl hn
  have w2 : ct_wf (dt_cp n t) := ct_map_wf t hw.1
  refine ⟨⟨w2, ct_er_nws hw.1 w2 (fun x y z w g1 g2 g3 => h1.2 _ _ _ g1 (g3 ▸ g2)) h2 hw.2.1, ct_er_nus hw.1 w2 h2 hw.2.2⟩, ?_, ct_map_lf hw.1, ct_map_sz t⟩
  exact ct_lx_mono _ w2 _ _ (fun y hy => by obtain ⟨x, hx, _⟩ := hy; exact hx.elim) (ct_lx_er h1 t hw.1 _ w2 _ hw.2.1 h2 hl)
theorem dt_dn_ok0 {C : Nat → ct_T} {R : List (Int32 × Int32 × Int32 × Int32)} {nq : ct_T → Nat → Bool} {p n m : Nat} {G : ct_G} {e : ct_D} {a b c t2 : ct_T} (hC : dt_C C) (hR : ∀ q, q ∈ R → ct_rok q) (hn : n < 2000000000) (hw : dt_w (ct_nd e a b c)) (hbd : dt_bd n (ct_nd e a b c)) (hgc : dt_gc n G (ct_nd e a b c)) (hl : ct_lx G (ct_nd e a b c)) (hsz : ct_sz a ≤ 150) (hsz2 : ct_sz b ≤ 150) (h : dt_dn C R nq p n e a b c = some (t2, m)) : dt_ok n m G (ct_nd e a b c) t2 := by
  have hlf : dt_dn (fun _ => .leaf) R nq p n e a b c = some (t2, m) → dt_ok n m G (ct_nd e a b c) t2 := fun h =>
    dt_dn_ok (C := fun _ => .leaf) (fun g hg => absurd rfl hg) (fun g x hx => by cases hx) hR hn hw hbd hgc hl hsz hsz2 h
  by_cases hc : p = 0 ∧ e.1 = 5 ∧ ¬ dt_k a = 4 ∧ ¬ dt_lk (dt_k a) = true ∧ dt_k a = 3 ∧ dt_sm (C (dt_gn (dt_e a))) = true
  · obtain ⟨c0, c5, c4, ck, c3, cs⟩ := hc
    obtain ⟨p1, p2, pa, pb, pc⟩ := dt_w_nd hw
    obtain ⟨la, lb, lc⟩ := ct_q2 hw.1 (Or.inl c5)
    have h2 : ¬ e.1 = 2 := by rw [c5]; decide
    have hl2 := (dt_lx h2).mp hl
    obtain ⟨g1, g2, g3⟩ := dt_G_n (e := e) (G := G) (by rw [c5]; decide) (by rw [c5]; decide) (by rw [c5]; decide)
    rw [g1, g2, g3] at hl2
    unfold dt_dn at h
    rw [if_pos c0] at h
    unfold dt_si at h
    rw [if_pos c5] at h
    unfold dt_ap at h
    rw [if_neg c4, if_neg ck, if_pos ⟨c3, cs⟩] at h
    obtain ⟨s1, s2, s3, s4⟩ := dt_sm_of cs
    have hco := hC _ s4
    have c1 : dt_w (C (dt_gn (dt_e a))) := ⟨hco.1, hco.2.2.1, hco.2.2.2.2.2.2.1⟩
    have c2 := dt_nodup.mp hco.2.2.2.2.1
    have c3' := hco.2.2.2.2.2.1
    generalize hu : C (dt_gn (dt_e a)) = u at h s1 s2 s3 s4 hco c1 c2 c3'
    cases h
    have hnb := dt_nb_sz c1.1
    obtain ⟨d1, d2, d3, d4⟩ := dt_cp_w0 c1 c3' (n := n) (by omega)
    have hwf : dt_w (ct_nd e (dt_cp n u) b c) := dt_w_re hw d1 pb pc ⟨fun h => absurd (d3.mp h) s4, fun h => absurd h la⟩ Iff.rfl Iff.rfl
    refine ⟨by omega, ?_, hwf, dt_ndl, fun z => ?_, ?_⟩
    · rw [ct_sz_nd, d4]; omega
    · have := dt_cp_i c2 (n := n) (by omega) z
      rw [dt_ct_nd, dt_ct_nd]; omega
    · rw [dt_lx h2, g1, g2, g3]
      exact ⟨ct_lx_mono _ d1.1 _ _ (fun y hy => hy.elim) d2, hl2.2⟩
  · refine hlf ?_
    rw [← h]
    unfold dt_dn
    by_cases c0 : p = 0
    · rw [if_pos c0, if_pos c0]
      unfold dt_si
      by_cases c5 : e.1 = 5
      · rw [if_pos c5, if_pos c5]
        unfold dt_ap
        by_cases c4 : dt_k a = 4
        · rw [if_pos c4, if_pos c4]
        · rw [if_neg c4, if_neg c4]
          by_cases ck : dt_lk (dt_k a) = true
          · rw [if_pos ck, if_pos ck]
          · rw [if_neg ck, if_neg ck, if_neg (fun hh => by cases hh.2), if_neg (fun hh => hc ⟨c0, c5, c4, ck, hh.1, hh.2⟩)]
      · rw [if_neg c5, if_neg c5]
    · rw [if_neg c0, if_neg c0]
theorem dt_g0 {C : Nat → ct_T} {R : List (Int32 × Int32 × Int32 × Int32)} {nq : ct_T → Nat → Bool} {p : Nat} (hC : dt_C C) (hR : ∀ q, q ∈ R → ct_rok q) : dt_good (dt_dn C R nq p) 0 := fun n m G e a b c t2 _ hn hw hbd hgc hl hsa hsb h => dt_dn_ok0 hC hR hn hw hbd hgc hl hsa hsb h
theorem ct_map_ht {f : Int32 → Int32} : ∀ t, ct_wf t → ct_ht (ct_map f t) = ct_ht t :=
  ct_ind rfl (fun e a b c hw iha ihb ihc => by
    show 1 + max (ct_ht (ct_map f a)) (max (ct_ht (ct_map f b)) (ct_ht (ct_map f c))) = 1 + max (ct_ht a) (max (ct_ht b) (ct_ht c))
    rw [iha, ihb, ihc])
theorem dt_put_ht {v : ct_T} {x : Int32} (hv : ct_wf v) : ∀ t, ct_wf t → ∀ n, ct_ht (dt_put v x t n).1 ≤ ct_ht t + ct_ht v :=
  ct_ind (fun n => by rw [dt_put_lf]; exact Nat.zero_le _) (fun e a b c hw iha ihb ihc n => by
    rw [dt_put_nd]
    by_cases h2 : e.1 = 2
    · rw [if_pos h2]
      by_cases hx : e.2.2.1 = x
      · rw [if_pos hx]
        show ct_ht (ct_map _ v) ≤ _
        rw [ct_map_ht v hv]
        omega
      · rw [if_neg hx]
        exact Nat.le_add_right _ _
    · rw [if_neg h2]
      have h1 := iha n
      have h3 := ihb (dt_put v x a n).2
      have h4 := ihc (dt_put v x b (dt_put v x a n).2).2
      rw [ct_ht_nd, ct_ht_nd]
      omega)
/-- how large and how high what a step makes is -/
theorem dt_dn_900 {C : Nat → ct_T} {R : List (Int32 × Int32 × Int32 × Int32)} {nq : ct_T → Nat → Bool} {p n m : Nat} {e : ct_D} {a b c t2 : ct_T} (hC : dt_C C) (hn : n < 2000000000) (hw : dt_w (ct_nd e a b c)) (hsa : ct_sz a ≤ 150) (hsb : ct_sz b ≤ 150) (hsc : ct_sz c ≤ 150) (hw2 : ct_wf t2) (h : dt_dn C R nq p n e a b c = some (t2, m)) : ct_sz t2 ≤ 900 ∧ ct_ht t2 ≤ 470 := by
  obtain ⟨p1, p2, pa, pb, pc⟩ := dt_w_nd hw
  have hht := ct_ht_le t2 hw2
  rcases dt_dn_gr hC hn hw h with ⟨g1, _⟩ | ⟨g1, g2, g3, g4, g5⟩
  · omega
  · have h1 := (dt_put_sn (v := a) (x := e.2.2.1) b pb.1 n).1
    rw [← g3] at h1
    have h2 := dt_put_ht (x := e.2.2.1) pa.1 b pb.1 n
    rw [← g3] at h2
    have h3 := ct_ht_le a pa.1
    have h4 := ct_ht_le b pb.1
    have hcnle := Nat.le_trans (ct_cn_le (x := e.2.2.1) (ct_fl b)) (by rw [ct_fl_len]; exact hsb)
    refine ⟨?_, by omega⟩
    rcases g5 with g5 | g5 | g5
    · have : ct_cn e.2.2.1 (ct_fl b) * ct_sz a ≤ ct_cn e.2.2.1 (ct_fl b) * 1 := Nat.mul_le_mul_left _ g5
      omega
    · rw [g5] at h1; omega
    · have : ct_cn e.2.2.1 (ct_fl b) * ct_sz a ≤ ct_cn e.2.2.1 (ct_fl b) * 6 := Nat.mul_le_mul_left _ g5
      omega
theorem dt_ol_ok : ∀ t, ct_wf t → ∀ G : ct_G, dt_w t → ct_lx G t → (∀ x, G x → 0 ≤ x.toInt ∧ x.toInt < 320) → (∀ z, 0 < dt_ct z t → 0 ≤ z.toInt ∧ z.toInt < 320) → cu_ol t :=
  ct_ind (fun G _ _ _ _ e he => by cases he) (fun e a b c hwf iha ihb ihc G hw hl hG hz => by
    obtain ⟨p1, p2, pa, pb, pc⟩ := dt_w_nd hw
    obtain ⟨lxa, lxb, lxc⟩ := dt_lx_nd hwf hl
    have hoc : ∀ z, 0 < dt_oc z e → 0 ≤ z.toInt ∧ z.toInt < 320 := fun z h => hz z (by rw [dt_ct_nd]; omega)
    have hin : ∀ z, z ∈ ct_ob e → 0 ≤ z.toInt ∧ z.toInt < 320 := fun z h => hoc z (List.count_pos_iff.mpr h)
    have ha := iha _ pa lxa (fun x hx => ((dt_Go p1).1 hx).elim (hG x) (hoc x)) (fun z h => hz z (by rw [dt_ct_nd]; omega))
    have hb := ihb _ pb lxb (fun x hx => ((dt_Go p1).2.1 hx).elim (hG x) (hoc x)) (fun z h => hz z (by rw [dt_ct_nd]; omega))
    have hc := ihc _ pc lxc (fun x hx => ((dt_Go p1).2.2 hx).elim (hG x) (hoc x)) (fun z h => hz z (by rw [dt_ct_nd]; omega))
    intro e2 he2
    rw [ct_fl_nd] at he2
    rcases List.mem_cons.mp he2 with rfl | he2
    · obtain ⟨n1, n2, n3⟩ := p1
      by_cases h12 : e2.1 = 12
      · have hob : ct_ob e2 = [e2.2.2.1, e2.2.2.2] := if_pos h12
        exact Or.inr (hin _ (by rw [hob]; simp))
      · by_cases h2 : e2.1 = 2
        · rw [ct_lx_nd, if_pos h2] at hl
          exact Or.inr (hG _ hl)
        · by_cases h4 : e2.1 = 4 ∨ e2.1 = 6 ∨ e2.1 = 7 ∨ e2.1 = 8
          · have hob : ct_ob e2 = [e2.2.2.1] := by
              unfold ct_ob
              rw [if_neg h12, if_pos h4]
            exact Or.inr (hin _ (by rw [hob]; simp))
          · have hno : ¬ (e2.1 = 2 ∨ e2.1 = 4 ∨ e2.1 = 6 ∨ e2.1 = 7 ∨ e2.1 = 8 ∨ e2.1 = 12) := fun hc => by
              rcases hc with h | h | h | h | h | h
              · exact h2 h
              · exact h4 (Or.inl h)
              · exact h4 (Or.inr (Or.inl h))
              · exact h4 (Or.inr (Or.inr (Or.inl h)))
              · exact h4 (Or.inr (Or.inr (Or.inr h)))
              · exact h12 h
            exact Or.inl (n3 hno).1
    · rcases List.mem_append.mp he2 with h | h
      · exact ha e2 h
      · rcases List.mem_append.mp h with h | h
        · exact hb e2 h
        · exact hc e2 h)
/-- what going through a tree may write -/
def cW_mv (rest : List Nat) (b j : Nat) : Bool := decide (92 ≤ b ∧ b ≤ 98 ∧ 4800 ≤ j ∧ ¬ j ∈ rest ∨ b = 99 ∨ b = 83 ∧ (j = 17 ∨ j = 19 ∨ j = 20 ∨ j = 23 ∨ j = 31 ∨ j = 32) ∨ b = 100 ∨ b = 101 ∨ b = 112)
def cW_mo (b j : Nat) : Bool := decide (92 ≤ b ∧ b ≤ 98 ∧ 4800 ≤ j ∨ b = 99 ∨ b = 83 ∧ (j = 17 ∨ j = 19 ∨ j = 20 ∨ j = 23 ∨ j = 31 ∨ j = 32) ∨ b = 100 ∨ b = 101 ∨ b = 112)
theorem cW_mv_no {rest : List Nat} {b j : Nat} (h1 : 92 ≤ b) (h2 : b ≤ 98) (h : j ∈ rest ∨ j < 4800) : cW_mv rest b j = false := decide_eq_false (fun hc => by
  rcases hc with hc | hc
  · rcases h with h | h
    · exact hc.2.2.2 h
    · omega
  · omega)
theorem cW_mv_mo {rest rest2 : List Nat} {S S2 : cm_S} (hr : ∀ x, x ∈ rest → x ∈ rest2) (h : cf_W (cW_mv rest2) S S2) : cf_W (cW_mv rest) S S2 := cf_mono h (fun b j hw => by
  have hw := of_decide_eq_true hw
  rcases hw with hw | hw
  · exact decide_eq_true (Or.inl ⟨hw.1, hw.2.1, hw.2.2.1, fun hc => hw.2.2.2 (hr _ hc)⟩)
  · exact decide_eq_true (Or.inr hw))
theorem cW_mv_mp {rest : List Nat} {S S2 : cm_S} (h : cf_W (cW_mp rest) S S2) : cf_W (cW_mv rest) S S2 := cf_mono h (fun b j hw => by
  have hw := of_decide_eq_true hw
  rcases hw with hw | hw
  · exact decide_eq_true (Or.inl hw)
  · exact decide_eq_true (by omega))
theorem cW_mv_1 {S S2 : cm_S} {i : Nat} {rest : List Nat} (hi : 4800 ≤ i) (hr : ¬ i ∈ rest) (h : cf_W (cW_1 i) S S2) : cf_W (cW_mv rest) S S2 := cW_mv_mp (cW_1mp hi hr h)
theorem cW_mo_mv {rest : List Nat} {S S2 : cm_S} (h : cf_W (cW_mv rest) S S2) : cf_W cW_mo S S2 := cf_mono h (fun b j hw => by
  have hw := of_decide_eq_true hw
  rcases hw with hw | hw
  · exact decide_eq_true (Or.inl ⟨hw.1, hw.2.1, hw.2.2.1⟩)
  · exact decide_eq_true (Or.inr hw))
theorem cW_mo_1 {S S2 : cm_S} {i : Nat} (hi : 4800 ≤ i) (h : cf_W (cW_1 i) S S2) : cf_W cW_mo S S2 := cf_mono h (fun b j hw => by
  have hw := of_decide_eq_true hw
  exact decide_eq_true (Or.inl ⟨hw.1, hw.2.1, by omega⟩))
theorem cl_t_mv {rest fp : List Nat} {S S2 : cm_S} {t : ct_T} {p : Int32} (hw : ct_wf t) (hc : cf_W (cW_mv rest) S S2) (hd : ∀ x, x ∈ fp → x ∈ rest ∨ x < 4800) (h : cl_t S t p fp) : cl_t S2 t p fp := cl_t_cf hc t hw p fp (fun b x q1 q2 hx => cW_mv_no q1 q2 (hd x hx)) h
theorem cl_nn_mv {rest : List Nat} {S S2 : cm_S} {i : Nat} {e : ct_D} {pa pb pc : Int32} (hc : cf_W (cW_mv rest) S S2) (hd : i ∈ rest) (h : cl_nn S i e pa pb pc) : cl_nn S2 i e pa pb pc := cl_nn_cf hc (fun b q1 q2 => cW_mv_no q1 q2 (Or.inl hd)) h
/-- what a pass of the model keeps -/
def dm_k (S : cm_S) (T U : Nat → ct_T) (R : List (Int32 × Int32 × Int32 × Int32)) (Q : Nat → Nat → Bool) (ps : Nat) : Prop := dm_d S U ∧ cl_r S R ∧ S.1 83 33 = Int32.ofNat ps - 5 ∧ cl_q S T (fun g => ct_pre (U g)) Q
theorem dm_k_cf {W : Nat → Nat → Bool} {S S2 : cm_S} {T U : Nat → ct_T} {R : List (Int32 × Int32 × Int32 × Int32)} {Q : Nat → Nat → Bool} {ps : Nat} (hU : ct_ds U) (hc : cf_W W S S2) (hd : ∀ b j, (92 ≤ b ∧ b ≤ 98 ∧ 1200 ≤ j ∧ j < 2400 ∨ b = 102 ∨ b = 103 ∧ 8 ≤ j ∧ j < 16 ∨ 104 ≤ b ∧ b ≤ 108 ∨ b = 111 ∨ b = 83 ∧ (j = 26 ∨ j = 33)) → W b j = false) (h : dm_k S T U R Q ps) : dm_k S2 T U R Q ps := by
  obtain ⟨⟨h1, h2⟩, h3, h4, h5, h6⟩ := h
  refine ⟨⟨cl_d_fr hU hc (fun j hj => hd _ _ (by omega)) (fun b x q1 q2 q3 q4 => hd _ _ (by omega)) h1, cl_i_cf hc (fun j => hd _ _ (by omega)) h2⟩, cl_r_cf hc (hd _ _ (by omega)) (fun b j q1 q2 => hd _ _ (by omega)) h3, by rw [(hc _ _ (hd 83 33 (by omega))).1]; exact h4, cl_i_cf hc (fun j => hd _ _ (by omega)) h5, fun g hg => ?_⟩
  obtain ⟨g1, g2, g3⟩ := h6 g hg
  refine ⟨by rw [(hc _ _ (hd 108 g (by omega))).1]; exact g1, g2, fun k hk => ?_⟩
  rw [(hc _ _ (hd 111 (4 * g + k) (by omega))).1]
  exact g3 k hk
theorem dm_k_mv {rest : List Nat} {S S2 : cm_S} {T U : Nat → ct_T} {R : List (Int32 × Int32 × Int32 × Int32)} {Q : Nat → Nat → Bool} {ps : Nat} (hU : ct_ds U) (hc : cf_W (cW_mv rest) S S2) (h : dm_k S T U R Q ps) : dm_k S2 T U R Q ps := dm_k_cf hU hc (fun b j hbj => decide_eq_false (fun hw => by
  rcases hw with hw | hw
  · omega
  · omega)) h
theorem dt_pre_C {U : Nat → ct_T} (hU : ct_ds U) : dt_C (dt_U (fun g => ct_pre (U g))) := fun g hg => by
  unfold dt_U at hg ⊢
  split at hg
  · next h =>
    rw [if_pos h]
    have hl : ¬ U g = .leaf := fun hc => hg (by show ct_pre (U g) = .leaf; rw [hc]; rfl)
    exact (ct_pre_co (hU g h hl).1).1
  · exact absurd rfl hg
section CPa15
variable {L : Nat} {xs : Nat → Int32}
theorem cp_230o {S : cm_S} {K : cm_K} {D : Nat} {p q : Int32} (hD : 1 ≤ D) (h : ¬ S.1 83 32 = 0) (k : K (.inl (some (.int q))) S 0) : cm_At (am_XX L xs) D 230 0 [some (.ref 83), some (.int p), some (.int q), none] [] S K := by
  obtain ⟨d, rfl⟩ : ∃ d, D = d + 1 := ⟨D - 1, by omega⟩
  refine cz_230_0 _ _ ⟨fun _ => cz_230_12 _ _ k, fun _ => ?_⟩
  rintro _ rfl
  exact ⟨fun hc => absurd hc h, fun _ => cz_230_12 _ _ k⟩
/-- a tree -/
theorem cp_230 {T U : Nat → ct_T} {R : List (Int32 × Int32 × Int32 × Int32)} {Q : Nat → Nat → Bool} {ps : Nat} (hps8 : ps < 8) (hU : ct_ds U) (hRk : ∀ q, q ∈ R → ct_rok q) (hQ : ∀ g k, Q g k = true → k < cu_M (fun g => ct_pre (U g)) g) :
    ∀ u, ct_wf u → ∀ (D n c0 kk : Nat) (G : ct_G) (S : cm_S) (p : Int32) (fp sp rest : List Nat) (nx : Nat) (K : cm_K), ct_ht u + 484 ≤ D → dt_iv n G u → n + 150 * ct_sz u + 900 ≤ 32768 → (ps = 4 → n ≤ 150) → 15 * ct_sz u + rest.length + 1052 ≤ 3392 → c0 + 150 * ct_sz u < 2000000000 → dm_k S T U R Q ps → cl_t S u p fp → cl_hp S sp nx (fp ++ rest) → S.1 83 20 = Int32.ofNat n → cl_cs S c0 → S.1 83 32 = 0 → S.1 83 31 = Int32.ofNat kk →
    (dt_pa (dt_dn (dt_U (fun g => ct_pre (U g))) R (cu_nq Q (cu_M (fun g => ct_pre (U g)))) ps) false u n = none → ∀ S2 q c2, cf_W cW_mo S S2 → ¬ S2.1 83 32 = 0 → cl_cs S2 c2 → c0 ≤ c2 → c2 ≤ c0 + 150 * ct_sz u → K (.inl (some (.int q))) S2 0) →
    (∀ u2 m k, dt_pa (dt_dn (dt_U (fun g => ct_pre (U g))) R (cu_nq Q (cu_M (fun g => ct_pre (U g)))) ps) false u n = some (u2, m, k) → ∀ S2 q fp2 sp2 nx2 c2, cl_t S2 u2 q fp2 → cl_hp S2 sp2 nx2 (fp2 ++ rest) → S2.1 83 20 = Int32.ofNat m → S2.1 83 32 = 0 → S2.1 83 31 = Int32.ofNat (kk + k) → cl_cs S2 c2 → c0 ≤ c2 → c2 ≤ c0 + 150 * ct_sz u → cf_W (cW_mv rest) S S2 → K (.inl (some (.int q))) S2 0) →
    cm_At (am_XX L xs) D 230 0 [some (.ref 83), some (.int (Int32.ofNat ps)), some (.int p), none] [] S K :=
  ct_ind (fun D n c0 kk G S p fp sp rest nx K hD hiv hn hst hcap hc0 hk hcl hhp h20 hcs h32 h31 k0 k1 => by
    obtain ⟨rfl, rfl⟩ := hcl
    obtain ⟨D, rfl⟩ : ∃ d, D = d + 1 := ⟨D - 1, by omega⟩
    refine cz_230_0 _ _ ⟨fun _ => cz_230_12 _ _ ?_, fun h => absurd rfl h⟩
    exact k1 .leaf n 0 dt_pa_lf S (-1) [] sp nx c0 (cl_t_lf.mpr ⟨rfl, rfl⟩) hhp h20 h32 h31 hcs (Nat.le_refl _) (by omega) cf_rfl) (fun e a b c hwf iha ihb ihc D n c0 kk G S p fp sp rest nx K hD hiv hn hst hcap hc0 hk hcl hhp h20 hcs h32 h31 k0 k1 => by
    obtain ⟨hw, hbd, hgc, hlx⟩ := hiv
    obtain ⟨p1, p2, wa, wb, wc⟩ := dt_w_nd hw
    obtain ⟨iva, ivb, ivc⟩ := dt_iv_nd ⟨hw, hbd, hgc, hlx⟩
    have hC := dt_pre_C hU
    have hG : dt_good (dt_dn (dt_U (fun g => ct_pre (U g))) R (cu_nq Q (cu_M (fun g => ct_pre (U g)))) ps) 0 := dt_g0 hC hRk
    obtain ⟨i, fa, fb, fc, pa, pb, pc, rfl, hnn, ta, tb, tc, rfl⟩ := cl_t_nn hcl
    obtain ⟨D, rfl⟩ : ∃ d, D = d + 1 := ⟨D - 1, by omega⟩
    have i8 := hnn.1
    have dj1 := cl_dj hhp
    have i48 := dj1.1.2.2.2.2
    have ir := dj1.1.2.2.2.1
    rw [ct_ht_nd] at hD
    have hsz := ct_sz_nd (e := e) (a := a) (b := b) (c := c)
    have lena := (cl_t_len a wa.1 _ _ ta).1
    have lenb := (cl_t_len b wb.1 _ _ tb).1
    have lenc := (cl_t_len c wc.1 _ _ tc).1
    rw [dt_pa_f] at k0 k1
    -- once over, nothing more is done
    have over3 : ∀ (S2 : cm_S) (q : Int32) (c2 : Nat) (K2 : cm_K), (K2 = K) → cf_W cW_mo S S2 → ¬ S2.1 83 32 = 0 → cl_cs S2 c2 → (∀ S3 q3, cf_W cW_mo S S3 → ¬ S3.1 83 32 = 0 → cl_cs S3 c2 → K (.inl (some (.int q3))) S3 0) → cm_At (am_XX L xs) (D + 1) 230 83 [some (.ref 83), some (.int (Int32.ofNat ps)), some (.int (Int32.ofNat i)), some (.int (-1))] [] S2 K2 := by
      intro S2 q c2 K2 hK f2 g2 s2 kf
      rw [hK]
      refine cz_230_83 _ _ _ ?_
      rintro _ rfl
      refine ⟨fun _ => ?_, fun h => absurd rfl h⟩
      rintro _ rfl
      refine ⟨fun _ => ?_, fun h => absurd rfl h⟩
      have f3 : cf_W (fun b j => decide (b = 83 ∧ j = 31)) S2 (cm_wI S2 83 31 (S2.1 83 31 + 0)) := cf_wI (decide_eq_true ⟨rfl, rfl⟩)
      have g3 : ¬ (cm_wI S2 83 31 (S2.1 83 31 + 0)).1 83 32 = 0 := by rw [(f3 83 32 (decide_eq_false (by omega))).1]; exact g2
      have s3 := cl_cs_f f3 (decide_eq_false (by omega)) (fun j => decide_eq_false (by omega)) s2
      refine cz_230_113 _ _ _ ?_
      rintro _ rfl
      refine ⟨fun h => absurd h g3, fun _ => ⟨Or.inr rfl, ?_⟩⟩
      rintro _ rfl
      have f4 : cf_W (fun b j => decide (b = 83 ∧ j = 32)) (cm_wI S2 83 31 (S2.1 83 31 + 0)) (cm_wI (cm_wI S2 83 31 (S2.1 83 31 + 0)) 83 32 1) := cf_wI (decide_eq_true ⟨rfl, rfl⟩)
      refine kf _ _ (cf_tr f2 (cf_tr (cf_mono f3 (fun b j h => decide_eq_true (by have h := of_decide_eq_true h; omega))) (cf_mono f4 (fun b j h => decide_eq_true (by have h := of_decide_eq_true h; omega))))) ?_ (cl_cs_f f4 (decide_eq_false (by omega)) (fun j => decide_eq_false (by omega)) s3)
      rw [cp_wI1, if_pos ⟨rfl, rfl⟩]
      decide
    have w1o : ∀ {S2 : cm_S} {b : Nat} {q : Int32} {c2 : Nat}, 92 ≤ b → b ≤ 98 → cf_W cW_mo S S2 → ¬ S2.1 83 32 = 0 → cl_cs S2 c2 → cf_W cW_mo S (cm_wI S2 b i q) ∧ ¬ (cm_wI S2 b i q).1 83 32 = 0 ∧ cl_cs (cm_wI S2 b i q) c2 := fun {S2 b q c2} h1 h2 f2 g2 s2 => by
      have w : cf_W (cW_1 i) S2 (cm_wI S2 b i q) := cW_1I h1 h2
      exact ⟨cf_tr f2 (cW_mo_1 i48 w), by rw [(w 83 32 (decide_eq_false (by omega))).1]; exact g2, cl_cs_f w (decide_eq_false (by omega)) (fun j => decide_eq_false (by omega)) s2⟩
    refine cz_230_0 _ _ ⟨fun h => absurd h (cp_m1 (by omega)), fun _ => ?_⟩
    rintro _ rfl
    refine ⟨fun _ => ⟨cp_in i8 (by decide), ?_⟩, fun h => absurd h32 h⟩
    rw [cp_cl (by omega)]
    rintro _ rfl
    rw [hnn.2.2.1]
    -- the first part
    refine iha D n c0 kk _ S pa fa sp (i :: (fb ++ (fc ++ rest))) nx _ (by omega) iva (by omega) hst (by simp only [List.length_cons, List.length_append]; omega) (by omega) hk ta (cl_hp_to _ hhp (fun y => by simp only [List.count_append, List.count_cons]; omega)) h20 hcs h32 h31 (fun hnone S1 q1 c1 f1 g1 s1 e1 e1' => cp_r1 ⟨cp_in i8 (by decide), ?_⟩) (fun a2 ma ka hsa S1 qa fa2 sp1 nx1 c1 ta1 hp1 h201 h321 h311 hcs1 e1 e1' f1 => cp_r1 ⟨cp_in i8 (by decide), ?_⟩)
    · rw [hnone] at k0
      rintro _ rfl
      obtain ⟨f1', g1', s1'⟩ := w1o (b := 94) (q := q1) (by omega) (by omega) f1 g1 s1
      refine ⟨cp_in i8 (by decide), ?_⟩
      rintro _ rfl
      refine cp_230o (by omega) g1' (cp_r1 ⟨cp_in i8 (by decide), ?_⟩)
      rintro _ rfl
      obtain ⟨f2', g2', s2'⟩ := w1o (b := 95) (q := (cm_wI S1 94 i q1).1 95 i) (by omega) (by omega) f1' g1' s1'
      refine ⟨cp_in i8 (by decide), ?_⟩
      rintro _ rfl
      refine cp_230o (by omega) g2' (cp_r1 ⟨cp_in i8 (by decide), ?_⟩)
      rintro _ rfl
      obtain ⟨f3', g3', s3'⟩ := w1o (b := 96) (q := (cm_wI (cm_wI S1 94 i q1) 95 i ((cm_wI S1 94 i q1).1 95 i)).1 96 i) (by omega) (by omega) f2' g2' s2'
      rintro _ rfl
      refine ⟨fun h => absurd h g3', fun _ => ?_⟩
      exact over3 _ 0 c1 _ (by simp only [dk_sh0]) f3' g3' s3' (fun S3 q3 f4 g4 s4 => k0 rfl S3 q3 c1 f4 g4 s4 e1 (by omega))
    have ra := dt_pa_iv hG iva (Nat.zero_le _) (by omega) hsa
    have ga := (dt_pa_gr hC hG a wa.1 n _ a2 ma ka wa iva.2.1 iva.2.2.1 iva.2.2.2 (Nat.zero_le _) (by omega) hsa).1
    have ra1 := ra.1
    have ra2 := ra.2.1
    have wa2 := ra.2.2.1
    have sta : ps = 4 → ma ≤ 150 := fun h4 => by
      have hst' := hst h4
      subst h4
      have := (dt_pa_st a wa.1 _ _ _ _ hsa).1
      omega
    have la2 := (cl_t_len _ wa2.1 _ _ ta1).1
    have hia : ¬ i ∈ fa2 := fun hc => (cl_dj (cl_hp_to ((i :: (fa2 ++ (fb ++ fc))) ++ rest) hp1 (fun y => by simp only [List.count_append, List.count_cons]; omega))).1.1 hc
    have nn1 := cl_nn_mv f1 (by simp) hnn
    have tb1 := cl_t_mv wb.1 f1 (fun y hy => Or.inl (by simp [hy])) tb
    have tc1 := cl_t_mv wc.1 f1 (fun y hy => Or.inl (by simp [hy])) tc
    have wf1 : cf_W (cW_1 i) S1 (cm_wI S1 94 i qa) := cW_1I (by omega) (by omega)
    rintro _ rfl
    have nn1' := cl_nn_a (q := qa) nn1
    have ta1' := cl_t_1 wa2.1 wf1 hia ta1
    have tb1' := cl_t_1 wb.1 wf1 dj1.1.2.1 tb1
    have tc1' := cl_t_1 wc.1 wf1 dj1.1.2.2.1 tc1
    have hp1' := cl_hp_1 wf1 hp1
    have h201' := dm_20 wf1 (decide_eq_false (by omega)) h201
    have hcs1' := cl_cs_f wf1 (decide_eq_false (by omega)) (fun j => decide_eq_false (by omega)) hcs1
    have h321' : (cm_wI S1 94 i qa).1 83 32 = 0 := by rw [(wf1 83 32 (decide_eq_false (by omega))).1]; exact h321
    have h311' : (cm_wI S1 94 i qa).1 83 31 = Int32.ofNat (kk + ka) := by rw [(wf1 83 31 (decide_eq_false (by omega))).1]; exact h311
    have f1' : cf_W (cW_mv rest) S (cm_wI S1 94 i qa) := cf_tr (cW_mv_mo (fun y hy => by simp [hy]) f1) (cW_mv_1 i48 ir wf1)
    have hk1 := dm_k_mv hU f1' hk
    generalize cm_wI S1 94 i qa = S1' at nn1' ta1' tb1' tc1' hp1' h201' hcs1' h321' h311' f1' hk1 ⊢
    rw [hsa] at k0 k1
    -- the second
    refine ⟨cp_in i8 (by decide), ?_⟩
    rintro _ rfl
    rw [nn1'.2.2.2.1]
    refine ihb D ma c1 (kk + ka) _ S1' pb fb sp1 (i :: (fa2 ++ (fc ++ rest))) nx1 _ (by omega) (dt_iv_mo ra1 ivb) (by omega) sta (by simp only [List.length_cons, List.length_append]; omega) (by omega) hk1 tb1' (cl_hp_to _ hp1' (fun y => by simp only [List.count_append, List.count_cons]; omega)) h201' hcs1' h321' h311' (fun hnone S2 q2 c2 f2 g2 s2 e2 e2' => cp_r1 ⟨cp_in i8 (by decide), ?_⟩) (fun b2 mb kb hsb S2 qb fb2 sp2 nx2 c2 tb2 hp2 h202 h322 h312 hcs2 e2 e2' f2 => cp_r1 ⟨cp_in i8 (by decide), ?_⟩)
    · rintro _ rfl
      obtain ⟨f2', g2', s2'⟩ := w1o (b := 95) (q := q2) (by omega) (by omega) (cf_tr (cW_mo_mv f1') f2) g2 s2
      refine ⟨cp_in i8 (by decide), ?_⟩
      rintro _ rfl
      refine cp_230o (by omega) g2' (cp_r1 ⟨cp_in i8 (by decide), ?_⟩)
      rintro _ rfl
      obtain ⟨f3', g3', s3'⟩ := w1o (b := 96) (q := (cm_wI S2 95 i q2).1 96 i) (by omega) (by omega) f2' g2' s2'
      rintro _ rfl
      refine ⟨fun h => absurd h g3', fun _ => ?_⟩
      refine over3 _ 0 c2 _ (by simp only [dk_sh0]) f3' g3' s3' (fun S3 q3 f4 g4 s4 => k0 ?_ S3 q3 c2 f4 g4 s4 (by omega) (by omega))
      show Option.bind (dt_pa _ false b ma) _ = none
      rw [hnone]
      rfl
    have rb := dt_pa_iv hG (dt_iv_mo ra1 ivb) (Nat.zero_le _) (by omega) hsb
    have ivb' := dt_iv_mo ra1 ivb
    have gb := (dt_pa_gr hC hG b wb.1 ma _ b2 mb kb wb ivb'.2.1 ivb'.2.2.1 ivb'.2.2.2 (Nat.zero_le _) (by omega) hsb).1
    have rb1 := rb.1
    have rb2 := rb.2.1
    have wb2 := rb.2.2.1
    have stb : ps = 4 → mb ≤ 150 := fun h4 => by
      have hst' := sta h4
      subst h4
      have := (dt_pa_st b wb.1 _ _ _ _ hsb).1
      omega
    have lb2 := (cl_t_len _ wb2.1 _ _ tb2).1
    have hib : ¬ i ∈ fb2 := fun hc => (cl_dj (cl_hp_to ((i :: (fa2 ++ (fb2 ++ fc))) ++ rest) hp2 (fun y => by simp only [List.count_append, List.count_cons]; omega))).1.2.1 hc
    have nn2 := cl_nn_mv f2 (by simp) nn1'
    have ta2 := cl_t_mv wa2.1 f2 (fun y hy => Or.inl (by simp [hy])) ta1'
    have tc2 := cl_t_mv wc.1 f2 (fun y hy => Or.inl (by simp [hy])) tc1'
    have wf2 : cf_W (cW_1 i) S2 (cm_wI S2 95 i qb) := cW_1I (by omega) (by omega)
    rintro _ rfl
    have nn2' := cl_nn_b (q := qb) nn2
    have ta2' := cl_t_1 wa2.1 wf2 hia ta2
    have tb2' := cl_t_1 wb2.1 wf2 hib tb2
    have tc2' := cl_t_1 wc.1 wf2 dj1.1.2.2.1 tc2
    have hp2' := cl_hp_1 wf2 hp2
    have h202' := dm_20 wf2 (decide_eq_false (by omega)) h202
    have hcs2' := cl_cs_f wf2 (decide_eq_false (by omega)) (fun j => decide_eq_false (by omega)) hcs2
    have h322' : (cm_wI S2 95 i qb).1 83 32 = 0 := by rw [(wf2 83 32 (decide_eq_false (by omega))).1]; exact h322
    have h312' : (cm_wI S2 95 i qb).1 83 31 = Int32.ofNat (kk + ka + kb) := by rw [(wf2 83 31 (decide_eq_false (by omega))).1]; exact h312
    have f2' : cf_W (cW_mv rest) S (cm_wI S2 95 i qb) := cf_tr f1' (cf_tr (cW_mv_mo (fun y hy => by simp [hy]) f2) (cW_mv_1 i48 ir wf2))
    have hk2 := dm_k_mv hU f2' hk
    generalize cm_wI S2 95 i qb = S2' at nn2' ta2' tb2' tc2' hp2' h202' hcs2' h322' h312' f2' hk2 ⊢
    -- the third
    refine ⟨cp_in i8 (by decide), ?_⟩
    rintro _ rfl
    rw [nn2'.2.2.2.2]
    refine ihc D mb c2 (kk + ka + kb) _ S2' pc fc sp2 (i :: (fa2 ++ (fb2 ++ rest))) nx2 _ (by omega) (dt_iv_mo (Nat.le_trans ra1 rb1) ivc) (by omega) stb (by simp only [List.length_cons, List.length_append]; omega) (by omega) hk2 tc2' (cl_hp_to _ hp2' (fun y => by simp only [List.count_append, List.count_cons]; omega)) h202' hcs2' h322' h312' (fun hnone S3 q3 c3 f3 g3 s3 e3 e3' => cp_r1 ⟨cp_in i8 (by decide), ?_⟩) (fun c2' mc kc hsc S3 qc fc2 sp3 nx3 c3 tc3 hp3 h203 h323 h313 hcs3 e3 e3' f3 => cp_r1 ⟨cp_in i8 (by decide), ?_⟩)
    · rintro _ rfl
      obtain ⟨f3', g3', s3'⟩ := w1o (b := 96) (q := q3) (by omega) (by omega) (cf_tr (cW_mo_mv f2') f3) g3 s3
      rintro _ rfl
      refine ⟨fun h => absurd h g3', fun _ => ?_⟩
      refine over3 _ 0 c3 _ (by simp only [dk_sh0]) f3' g3' s3' (fun S4 q4 f4 g4 s4 => k0 ?_ S4 q4 c3 f4 g4 s4 (by omega) (by omega))
      show Option.bind (dt_pa _ false b ma) _ = none
      rw [hsb]
      show Option.bind (dt_pa _ false c mb) _ = none
      rw [hnone]
      rfl
    have ivc' := dt_iv_mo (Nat.le_trans ra1 rb1) ivc
    have rc := dt_pa_iv hG ivc' (Nat.zero_le _) (by omega) hsc
    have gc := (dt_pa_gr hC hG c wc.1 mb _ c2' mc kc wc ivc'.2.1 ivc'.2.2.1 ivc'.2.2.2 (Nat.zero_le _) (by omega) hsc).1
    have rc1 := rc.1
    have rc2 := rc.2.1
    have wc2 := rc.2.2.1
    have stc : ps = 4 → mc ≤ 150 := fun h4 => by
      have hst' := stb h4
      subst h4
      have := (dt_pa_st c wc.1 _ _ _ _ hsc).1
      omega
    have lc2 := (cl_t_len _ wc2.1 _ _ tc3).1
    have hp3c := cl_hp_to ((i :: (fa2 ++ (fb2 ++ fc2))) ++ rest) hp3 (fun y => by simp only [List.count_append, List.count_cons]; omega)
    have hic : ¬ i ∈ fc2 := fun hc => (cl_dj hp3c).1.2.2.1 hc
    have nn3 := cl_nn_mv f3 (by simp) nn2'
    have ta3 := cl_t_mv wa2.1 f3 (fun y hy => Or.inl (by simp [hy])) ta2'
    have tb3 := cl_t_mv wb2.1 f3 (fun y hy => Or.inl (by simp [hy])) tb2'
    have wf3 : cf_W (cW_1 i) S3 (cm_wI S3 96 i qc) := cW_1I (by omega) (by omega)
    rintro _ rfl
    have nn3' := cl_nn_c (q := qc) nn3
    have ta3' := cl_t_1 wa2.1 wf3 hia ta3
    have tb3' := cl_t_1 wb2.1 wf3 hib tb3
    have tc3' := cl_t_1 wc2.1 wf3 hic tc3
    have hp3' := cl_hp_1 wf3 hp3c
    have h203' := dm_20 wf3 (decide_eq_false (by omega)) h203
    have hcs3' := cl_cs_f wf3 (decide_eq_false (by omega)) (fun j => decide_eq_false (by omega)) hcs3
    have h323' : (cm_wI S3 96 i qc).1 83 32 = 0 := by rw [(wf3 83 32 (decide_eq_false (by omega))).1]; exact h323
    have h313' : (cm_wI S3 96 i qc).1 83 31 = Int32.ofNat (kk + ka + kb + kc) := by rw [(wf3 83 31 (decide_eq_false (by omega))).1]; exact h313
    have f3' : cf_W (cW_mv rest) S (cm_wI S3 96 i qc) := cf_tr f2' (cf_tr (cW_mv_mo (fun y hy => by simp [hy]) f3) (cW_mv_1 i48 ir wf3))
    have hk3 := dm_k_mv hU f3' hk
    generalize cm_wI S3 96 i qc = S3' at nn3' ta3' tb3' tc3' hp3' h203' hcs3' h323' h313' f3' hk3 ⊢
    -- the node itself
    have kn : ∀ (u2 : ct_T) (m k : Nat), dt_fn (dt_dn (dt_U (fun g => ct_pre (U g))) R (cu_nq Q (cu_M (fun g => ct_pre (U g)))) ps) mc e a2 b2 c2' (ka + kb + kc) = some (u2, m, k) → ∀ S2 q fp2 sp2 nx2 c4, cl_t S2 u2 q fp2 → cl_hp S2 sp2 nx2 (fp2 ++ rest) → S2.1 83 20 = Int32.ofNat m → S2.1 83 32 = 0 → S2.1 83 31 = Int32.ofNat (kk + k) → cl_cs S2 c4 → c0 ≤ c4 → c4 ≤ c0 + 150 * ct_sz (ct_nd e a b c) → cf_W (cW_mv rest) S S2 → K (.inl (some (.int q))) S2 0 := fun u2 m k hf => k1 u2 m k (by
      show Option.bind (dt_pa _ false b ma) _ = _
      rw [hsb]
      show Option.bind (dt_pa _ false c mb) _ = _
      rw [hsc]
      exact hf)
    have kf : dt_fn (dt_dn (dt_U (fun g => ct_pre (U g))) R (cu_nq Q (cu_M (fun g => ct_pre (U g)))) ps) mc e a2 b2 c2' (ka + kb + kc) = none → ∀ S2 q c4, cf_W cW_mo S S2 → ¬ S2.1 83 32 = 0 → cl_cs S2 c4 → c0 ≤ c4 → c4 ≤ c0 + 150 * ct_sz (ct_nd e a b c) → K (.inl (some (.int q))) S2 0 := fun hf => k0 (by
      show Option.bind (dt_pa _ false b ma) _ = _
      rw [hsb]
      show Option.bind (dt_pa _ false c mb) _ = _
      rw [hsc]
      exact hf)
    clear k0 k1 iha ihb ihc
    obtain ⟨n1, n2, n3, n4, n5, n6, n7⟩ := dt_pa_nd hw hbd hgc hlx ra rb rc (Or.inl ⟨rfl, rfl, rfl, rfl, rfl⟩)
    have hszn := ct_sz_nd (e := e) (a := a2) (b := b2) (c := c2')
    have ra7 := ra.2.2.2.2.2.2
    have rb7 := rb.2.2.2.2.2.2
    have rc7 := rc.2.2.2.2.2.2
    simp only [dk_sh0]
    rintro _ rfl
    refine ⟨fun _ => ?_, fun h => absurd h323' h⟩
    have hcapd : dm_c (dt_dn (dt_U (fun g => ct_pre (U g))) R (cu_nq Q (cu_M (fun g => ct_pre (U g)))) ps mc e a2 b2 c2') rest := fun q hq => by
      obtain ⟨t2, m⟩ := q
      have hok := hG mc m G e a2 b2 c2' t2 (Nat.zero_le _) (by omega) n3 n6 n7 n5 ra7 rb7 hq
      have h9 := (dt_dn_900 hC (by omega) n3 ra7 rb7 rc7 hok.2.2.1.1 hq).1
      have hm := hok.2.1
      refine ⟨?_, ?_⟩
      · show m ≤ 32768
        omega
      · show ct_sz t2 + 152 + rest.length ≤ 3392
        omega
    obtain ⟨D', rfl⟩ : ∃ d, D = d + 482 := ⟨D - 482, by omega⟩
    -- sizes decide
    have fin : ∀ (t2 : ct_T) (m k4 c4 j2 : Nat) (S4 : cm_S) (fp2 sp4 : List Nat) (nx4 : Nat) (x24 : Int32), (x24 = -1 → j2 = i) → (¬ x24 = -1 → x24 = Int32.ofNat j2) → ct_wf t2 → ct_sz t2 ≤ 900 → ct_ht t2 ≤ 470 → cl_t S4 t2 (Int32.ofNat j2) fp2 → cl_hp S4 sp4 nx4 (fp2 ++ rest) → S4.1 83 20 = Int32.ofNat m → S4.1 83 32 = 0 → S4.1 83 31 + (if x24 = -1 then 0 else 1) = Int32.ofNat (kk + k4) → cl_cs S4 c4 → c0 ≤ c4 → c4 ≤ c0 + 150 * ct_sz (ct_nd e a b c) → cf_W (cW_mv rest) S S4 →
        dt_fn (dt_dn (dt_U (fun g => ct_pre (U g))) R (cu_nq Q (cu_M (fun g => ct_pre (U g)))) ps) mc e a2 b2 c2' (ka + kb + kc) = (if ct_sz t2 ≤ 150 then some (t2, m, k4) else none) →
        cm_At (am_XX L xs) (D' + 482 + 1) 230 83 [some (.ref 83), some (.int (Int32.ofNat ps)), some (.int (Int32.ofNat i)), some (.int x24)] [] S4 K := by
      intro t2 m k4 c4 j2 S4 fp2 sp4 nx4 x24 hx1 hx2 wt2 hs9 hh4 t4 hp4 h204 h324 h314 hcs4 e4 e4' f4 hfn
      -- the count
      have g113 : ∀ (S5 : cm_S), cf_W (fun b j => decide (b = 83 ∧ j = 31)) S4 S5 → S5.1 83 31 = Int32.ofNat (kk + k4) → cm_At (am_XX L xs) (D' + 482 + 1) 230 113 [some (.ref 83), some (.int (Int32.ofNat ps)), some (.int (Int32.ofNat i)), some (.int (Int32.ofNat j2))] [] S5 K := by
        intro S5 f5 h315
        have t5 := cl_t_cf f5 t2 wt2 _ _ (fun b x q1 q2 _ => decide_eq_false (by omega)) t4
        have hp5 := cl_hp_cf f5 (fun j => decide_eq_false (by omega)) (decide_eq_false (by omega)) (decide_eq_false (by omega)) hp4
        have h325 : S5.1 83 32 = 0 := by rw [(f5 83 32 (decide_eq_false (by omega))).1]; exact h324
        have h205 := dm_20 f5 (decide_eq_false (by omega)) h204
        have hcs5 := cl_cs_f f5 (decide_eq_false (by omega)) (fun j => decide_eq_false (by omega)) hcs4
        have f5v : cf_W (cW_mv rest) S S5 := cf_tr f4 (cf_mono f5 (fun b j h => decide_eq_true (by have h := of_decide_eq_true h; omega)))
        refine cz_230_113 _ _ _ ?_
        rintro _ rfl
        refine ⟨fun _ => ?_, fun h => absurd h325 h⟩
        refine cp_204h t2 wt2 _ _ fp2 _ (by omega) (by omega) t5 (cp_r1 ?_)
        rw [show (150 : Int32) = Int32.ofNat 150 from rfl, cp_lt (by omega) (by omega)]
        have f6 : ∀ v : Int32, cf_W (fun b j => decide (b = 83 ∧ j = 32)) S5 (cm_wI S5 83 32 v) := fun v => cf_wI (decide_eq_true ⟨rfl, rfl⟩)
        refine ⟨fun hbig => ⟨Or.inr rfl, ?_⟩, fun hok => ⟨Or.inl rfl, ?_⟩⟩
        · rintro _ rfl
          rw [if_neg (by omega)] at hfn
          exact kf hfn _ _ c4 (cf_tr (cW_mo_mv f5v) (cf_mono (f6 1) (fun b j h => decide_eq_true (by have h := of_decide_eq_true h; omega)))) (by rw [cp_wI1, if_pos ⟨rfl, rfl⟩]; decide) (cl_cs_f (f6 1) (decide_eq_false (by omega)) (fun j => decide_eq_false (by omega)) hcs5) e4 e4'
        · rintro _ rfl
          rw [if_pos (by omega)] at hfn
          exact kn _ _ _ hfn _ _ fp2 sp4 nx4 c4 (cl_t_cf (f6 0) t2 wt2 _ _ (fun b x q1 q2 _ => decide_eq_false (by omega)) t5) (cl_hp_cf (f6 0) (fun j => decide_eq_false (by omega)) (decide_eq_false (by omega)) (decide_eq_false (by omega)) hp5) (dm_20 (f6 0) (decide_eq_false (by omega)) h205) (by rw [cp_wI1, if_pos ⟨rfl, rfl⟩]) (by rw [cp_wI1, if_neg (by omega)]; exact h315) (cl_cs_f (f6 0) (decide_eq_false (by omega)) (fun j => decide_eq_false (by omega)) hcs5) e4 e4' (cf_tr f5v (cf_mono (f6 0) (fun b j h => decide_eq_true (by have h := of_decide_eq_true h; omega))))
      refine cz_230_83 _ _ _ ?_
      rintro _ rfl
      refine ⟨fun hx => ?_, fun hx => ?_⟩
      · rintro _ rfl
        refine ⟨fun _ => ?_, fun h => absurd hx h⟩
        rw [if_pos hx] at h314
        rw [h314]
        have hji := hx1 hx
        rw [hji] at g113
        exact g113 _ (cf_wI (decide_eq_true ⟨rfl, rfl⟩)) (by rw [cp_wI1, if_pos ⟨rfl, rfl⟩])
      · rintro _ rfl
        refine ⟨fun h => absurd h hx, fun _ => ?_⟩
        rw [if_neg hx] at h314
        rw [h314, hx2 hx]
        exact g113 _ (cf_wI (decide_eq_true ⟨rfl, rfl⟩)) (by rw [cp_wI1, if_pos ⟨rfl, rfl⟩])
    have hcsN : c0 ≤ c3 ∧ c3 + 150 ≤ c0 + 150 * ct_sz (ct_nd e a b c) := by omega
    refine cp_229 (T := T) (U := U) (R := R) (Q := Q) (G := G) (d := D') hps8 hU hk3.1 hk3.2.1 hk3.2.2.1 hQ hk3.2.2.2 ⟨nn3', ta3', tb3', tc3', hp3', h203', hcs3', n3, by omega⟩ n6 n7 n5 (fun h4 => ⟨stc h4, ?_⟩) hcapd (by omega) ra7 rb7 rc7 ?_
    · have hmb := stb h4
      have hgb := (dt_gc_nd p1 hbd hgc).2.1
      refine dt_ol_ok b2 wb2.1 _ wb2 rb.2.2.2.2.2.1 (fun x hx => ?_) (fun z hz => ?_)
      · have h1 := hgb x hx
        have h2 := hst h4
        omega
      · have := (dt_res_bd rb (dt_bd_mo ra1 (dt_bd_nd hbd).2.1)).2 z hz
        omega
    · cases hdn : dt_dn (dt_U (fun g => ct_pre (U g))) R (cu_nq Q (cu_M (fun g => ct_pre (U g)))) ps mc e a2 b2 c2' with
      | none =>
        intro S4 f4
        refine cp_r1 ?_
        rw [dk_sh0]
        have hw4 : cf_W (cW_mv rest) S3' S4 := cf_mono f4 (fun b j h => decide_eq_true (by have h := of_decide_eq_true h; omega))
        have hN := cl_nn_t nn3' ta3' tb3' tc3'
        have hht2 := ct_ht_le _ n3.1
        refine fin (ct_nd e a2 b2 c2') mc (ka + kb + kc) c3 i S4 _ sp3 nx3 (-1) (fun _ => rfl) (fun h => absurd rfl h) n3.1 (by omega) (by omega) (cl_t_cf f4 _ n3.1 _ _ (fun b x q1 q2 _ => decide_eq_false (by omega)) hN) (cl_hp_cf f4 (fun j => decide_eq_false (by omega)) (decide_eq_false (by omega)) (decide_eq_false (by omega)) hp3') (dm_20 f4 (decide_eq_false (by omega)) h203') (by rw [(f4 83 32 (decide_eq_false (by omega))).1]; exact h323') ?_ (cl_cs_f f4 (decide_eq_false (by omega)) (fun j => decide_eq_false (by omega)) hcs3') (by omega) (by omega) (cf_tr f3' hw4) ?_
        · rw [(f4 83 31 (decide_eq_false (by omega))).1, h313', if_pos rfl, Int32.add_zero, show kk + (ka + kb + kc) = kk + ka + kb + kc by omega]
        · unfold dt_fn
          rw [hdn, ct_sz_nd]
      | some rr =>
        obtain ⟨t2, m⟩ := rr
        intro S4 i4 fp4 sp4 nx4 c4 t4 i48' hp4 h204 hcs4 e4 e4' f4
        refine cp_r1 ?_
        rw [dk_sh0]
        have hok := hG mc m G e a2 b2 c2' t2 (Nat.zero_le _) (by omega) n3 n6 n7 n5 ra7 rb7 hdn
        have h9 := dt_dn_900 hC (by omega) n3 ra7 rb7 rc7 hok.2.2.1.1 hdn
        refine fin t2 m (ka + kb + kc + 1) c4 i4 S4 fp4 sp4 nx4 (Int32.ofNat i4) (fun h => absurd h (cp_m1 (by omega))) (fun _ => rfl) hok.2.2.1.1 h9.1 h9.2 t4 hp4 h204 (by rw [(f4 83 32 (decide_eq_false (by omega))).1]; exact h323') ?_ hcs4 (by omega) (by omega) (cf_tr f3' (cW_mv_mp f4)) ?_
        · rw [(f4 83 31 (decide_eq_false (by omega))).1, h313', if_neg (cp_m1 (by omega)), show Int32.ofNat (kk + ka + kb + kc) + 1 = Int32.ofNat (kk + ka + kb + kc + 1) from cp_ad (b := 1), show kk + (ka + kb + kc + 1) = kk + ka + kb + kc + 1 by omega]
        · unfold dt_fn
          rw [hdn])
end CPa15
