/-! ## a44 what can still be reached: the model -/
def dl_S (S : cm_S) (nc : Nat) (w : Int64) (L : List Nat) : Prop := (S.1 83 73 = Int32.ofNat L.length ∧ S.1 83 75 = 0 ∧ S.2 132 0 = w) ∧ (∀ i m, L[i]? = some m → S.1 131 i = Int32.ofNat (dm_mc m)) ∧ ∀ m, m < nc → ¬ m = 8 → S.1 130 (dm_mc m) = if m ∈ L then 1 else 0
def dl_WS (b j : Nat) : Bool := decide (b = 83 ∧ (j = 73 ∨ j = 75) ∨ b = 130 ∨ b = 131 ∨ 80 ≤ b ∧ b ≤ 82 ∨ b = 132)
section CPa44
variable {L : Nat} {xs : Nat → Int32} {d : Nat} {S M : cm_S} {K : cm_K} {Ls : List Nat} {V : Nat → ct_T} {G : dm_Gs} {nc ne nv g : Nat} {c s : Int32} {w : Int64}
theorem cp_271 (h : dl_S S nc w Ls) (hok : dl_ok nc Ls) (hnc : nc ≤ 8009) (hc : dl_v nc c) (k : ∀ S2, dl_S S2 nc w (dl_ad Ls c) → cf_W dl_WS S S2 → K (.inl none) S2 0) : cm_At (am_XX L xs) (d + 1) 271 0 [some (.ref 83), some (.int (dm_ce c))] [] S K := by
  obtain ⟨⟨h1, h75, h132⟩, h2, h3⟩ := id h
  have hok2 := dl_ok_len (dl_ad_ok hok hnc hc)
  rcases hc with rfl | ⟨m, hm, hm8, rfl⟩
  · rw [dm_ce_m1]
    refine cx_271_0 _ ⟨fun _ => ?_, fun hc => absurd rfl hc⟩
    exact k S (by unfold dl_ad; rw [if_pos rfl]; exact h) cf_rfl
  · rw [dl_ad_in (by omega)] at k hok2
    have hmc : dm_mc m ≤ m := by unfold dm_mc; split <;> omega
    rw [dm_ce_at (by omega)]
    refine cx_271_0 _ ⟨fun hc => absurd hc (cp_m1 (by omega)), fun _ => ?_⟩
    refine ⟨cp_in (by omega) (by decide), ?_⟩
    rw [cp_cl (n := dm_mc m) (by omega)]
    intro x1 hx1
    rw [hx1, h3 m hm hm8]
    by_cases hmem : m ∈ Ls
    · rw [if_pos hmem] at k ⊢
      exact ⟨fun hc => absurd hc (by decide), fun _ => k S h cf_rfl⟩
    · rw [if_neg hmem] at k hok2 ⊢
      rw [List.length_append, List.length_singleton] at hok2
      refine ⟨fun _ => ⟨cp_in (by omega) (by decide), ?_⟩, fun hc => absurd rfl hc⟩
      intro S2 h4
      rw [h4]
      intro x3 h5
      rw [h5, cp_wI1, if_neg (by omega), h1]
      refine ⟨cp_in (by omega) (by decide), ?_⟩
      rw [cp_cl (n := Ls.length) (by omega)]
      intro S4 h6
      rw [h6]
      intro x5 h7
      rw [h7, cp_wI1, if_neg (by omega), cp_wI1, if_neg (by omega), h1, show Int32.ofNat Ls.length + 1 = Int32.ofNat (Ls.length + 1) from cp_ad (b := 1)]
      intro S6 h8
      rw [h8]
      refine k _ ⟨⟨?_, by rw [cp_wI1, if_neg (by omega), cp_wI1, if_neg (by omega), cp_wI1, if_neg (by omega)]; exact h75, by rw [cp_wI2, cp_wI2, cp_wI2]; exact h132⟩, fun i x hi => ?_, fun x hx hx8 => ?_⟩ (cf_tr (cf_wI (decide_eq_true (by omega))) (cf_tr (cf_wI (decide_eq_true (by omega))) (cf_wI (decide_eq_true (by omega)))))
      · rw [cp_wI1, if_pos ⟨rfl, rfl⟩, List.length_append]
        rfl
      · rw [cp_wI1, if_neg (by omega), cp_wI1]
        by_cases hie : i = Ls.length
        · rw [if_pos ⟨rfl, hie⟩]
          rw [hie, List.getElem?_append_right (Nat.le_refl _), Nat.sub_self] at hi
          injection hi with hi
          rw [hi]
        · rw [if_neg (fun hc => hie hc.2), cp_wI1, if_neg (by omega)]
          have hil : i < Ls.length := by
            rcases Nat.lt_or_ge i (Ls ++ [m]).length with hx | hx
            · rw [List.length_append, List.length_singleton] at hx; omega
            · rw [List.getElem?_eq_none hx] at hi; cases hi
          rw [List.getElem?_append_left hil] at hi
          exact h2 i x hi
      · rw [cp_wI1, if_neg (by omega), cp_wI1, if_neg (by omega), cp_wI1]
        by_cases hxm : x = m
        · rw [if_pos ⟨rfl, by rw [hxm]⟩, if_pos (by rw [hxm]; exact List.mem_append_right _ List.mem_cons_self)]
          rfl
        · rw [if_neg (fun hc => hxm (dm_mc_inj hc.2 hx8 hm8)), h3 x hx hx8]
          by_cases hxl : x ∈ Ls
          · rw [if_pos hxl, if_pos (List.mem_append_left _ hxl)]
          · rw [if_neg hxl, if_neg (fun hc => by
              rcases List.mem_append.mp hc with hc | hc
              · exact hxl hc
              · exact hxm (List.mem_singleton.mp hc))]
theorem dl_MS (hM : dl_M M V G nc ne nv) (hS : cf_W dl_WS M S) : dm_M M S V G nc ne 0 nv := dm_M_cf (cf_rfl (W := fun _ _ => false)) hS (fun b j hb => rfl) (fun b j hb => decide_eq_false (by omega)) rfl rfl rfl (decide_eq_false (by omega)) (decide_eq_false (by omega)) (decide_eq_false (by omega)) (decide_eq_false (by omega)) hM.1
/-- where there is no part, its link is none -/
theorem dm_n_lf {A : cm_S} {V : Nat → ct_T} {g q : Nat} {e : ct_D} {a b c t2 : ct_T} (h : dm_n A S V g q (ct_nd e a b c) t2) : (a = .leaf → S.1 94 (2400 + q) = -1) ∧ (b = .leaf → S.1 95 (2400 + q) = -1) ∧ (c = .leaf → S.1 96 (2400 + q) = -1) := by
  obtain ⟨n1, n2, n3, n4, n5, n6, n7, n8, n9⟩ := h
  obtain ⟨f, x, y, z, rfl, r1, r2, r3, r4⟩ := ct_er_el n5.1 n9
  obtain ⟨p1, p2, wa, wb, wc⟩ := dt_w_nd n4
  obtain ⟨q1, q2, wx, wy, wz⟩ := dt_w_nd n5
  have sx := ct_er_sz a wa.1 x wx.1 r2
  have sy := ct_er_sz b wb.1 y wy.1 r3
  have sz := ct_er_sz c wc.1 z wz.1 r4
  obtain ⟨i, fa, fb, fc, pa, pb, pc, hi, hnn, ta, tb, tc, hfp⟩ := cl_t_nn n8
  have hz := ct_sz_ne n4.1 n6
  have hii : 2400 + q = i := (cp_inj (by omega) (by have := hnn.1; omega)).mp hi
  subst hii
  refine ⟨fun hl => ?_, fun hl => ?_, fun hl => ?_⟩
  · rw [sx.2.mp hl] at ta
    rw [hnn.2.2.1]
    exact (cl_t_lf.mp ta).1
  · rw [sy.2.mp hl] at tb
    rw [hnn.2.2.2.1]
    exact (cl_t_lf.mp tb).1
  · rw [sz.2.mp hl] at tc
    rw [hnn.2.2.2.2]
    exact (cl_t_lf.mp tc).1
/-- the cells that a tree's nodes mean are added -/
theorem cp_272t (hM : dl_M M V G nc ne nv) (hs : dm_sc G ne g s) : ∀ t, ct_wf t → ∀ (q : Nat) (t2 : ct_T) (D : Nat) (S : cm_S) (Ls : List Nat) (K : cm_K), dm_n M M V g q t t2 → ct_sz t + 3 ≤ D → dl_S S nc w Ls → dl_ok nc Ls → cf_W dl_WS M S → (∀ S2, dl_S S2 nc w (dl_ads Ls (dl_ls M s (ct_fl t))) → cf_W dl_WS M S2 → K (.inl none) S2 0) → cm_At (am_XX L xs) D 272 0 [some (.ref 83), some (.int (Int32.ofNat (2400 + q))), some (.int s)] [] S K :=
  ct_ind (fun q t2 D S Ls K hn => absurd rfl hn.2.2.2.2.2.1) (fun e a b c hw iha ihb ihc q t2 D S Ls K hn hD hS hok fS k => by
    have hn0 := hn
    obtain ⟨f, x, y, z, pa, pb, pc, rfl, hnn, hed, ha, hb, hc⟩ := dm_n_nd hn
    have hq : 2400 + q < 8192 := hnn.1
    obtain ⟨la, lb, lc⟩ := dm_n_lf hn0
    rw [ct_sz_nd] at hD
    obtain ⟨D, rfl⟩ : ∃ D1, D = D1 + 2 := ⟨D - 2, by omega⟩
    have hnw := (dt_w_nd hn0.2.2.2.1).1
    have hnus : ∀ e2, e2 ∈ ct_fl (ct_nd e a b c) → ct_nu e2 := hn0.2.2.2.1.2.2
    have hv := dl_ls_v hM hs (ct_fl (ct_nd e a b c)) hnus
    rw [ct_fl_nd] at hv k
    have hsp : dl_ls M s (e :: (ct_fl a ++ (ct_fl b ++ ct_fl c))) = (if e.1 = 2 then [dm_fd M e.2.2.1 8000 s] else if e.1 = 3 then [e.2.1.toInt32] else []) ++ (dl_ls M s (ct_fl a) ++ (dl_ls M s (ct_fl b) ++ dl_ls M s (ct_fl c))) := by
      show _ ++ dl_ls M s (ct_fl a ++ (ct_fl b ++ ct_fl c)) = _
      rw [dl_ls_app, dl_ls_app]
    rw [hsp] at hv k
    -- a part
    have part : ∀ (u u2 : ct_T) (r : Nat) (p : Int32), (u = .leaf → p = -1) → (¬ u = .leaf → p = Int32.ofNat (2400 + r) ∧ dm_n M M V g r u u2) → ct_sz u ≤ ct_sz a + (ct_sz b + ct_sz c) → (∀ (q : Nat) (t2 : ct_T) (D : Nat) (S : cm_S) (Ls : List Nat) (K : cm_K), dm_n M M V g q u t2 → ct_sz u + 3 ≤ D → dl_S S nc w Ls → dl_ok nc Ls → cf_W dl_WS M S → (∀ S2, dl_S S2 nc w (dl_ads Ls (dl_ls M s (ct_fl u))) → cf_W dl_WS M S2 → K (.inl none) S2 0) → cm_At (am_XX L xs) D 272 0 [some (.ref 83), some (.int (Int32.ofNat (2400 + q))), some (.int s)] [] S K) → ∀ (S : cm_S) (Ls : List Nat) (K : cm_K), dl_S S nc w Ls → dl_ok nc Ls → cf_W dl_WS M S → (∀ S2, dl_S S2 nc w (dl_ads Ls (dl_ls M s (ct_fl u))) → cf_W dl_WS M S2 → K (.inl none) S2 0) → cm_At (am_XX L xs) (D + 1) 272 0 [some (.ref 83), some (.int p), some (.int s)] [] S K := fun u u2 r p h1 h2 h3 ih S Ls K g1 g2 g3 g4 => by
      by_cases hl : u = .leaf
      · rw [h1 hl]
        refine cx_272_0 _ _ ⟨fun _ => ?_, fun hx => absurd rfl hx⟩
        rw [hl] at g4
        exact g4 S g1 g3
      · obtain ⟨h4, h5⟩ := h2 hl
        rw [h4]
        exact ih r u2 (D + 1) S Ls K h5 (by omega) g1 g2 g3 g4
    have la2 : a = .leaf → pa = -1 := fun hl => by rw [← hnn.2.2.1]; exact la hl
    have lb2 : b = .leaf → pb = -1 := fun hl => by rw [← hnn.2.2.2.1]; exact lb hl
    have lc2 : c = .leaf → pc = -1 := fun hl => by rw [← hnn.2.2.2.2]; exact lc hl
    have hz := hn0.2.2.1
    -- all three
    have rest : ∀ (S : cm_S) (Ls1 : List Nat) (K2 : cm_K), dl_S S nc w Ls1 → dl_ok nc Ls1 → cf_W dl_WS M S → (∀ c2, c2 ∈ dl_ls M s (ct_fl a) ++ (dl_ls M s (ct_fl b) ++ dl_ls M s (ct_fl c)) → dl_v nc c2) → (∀ S2, dl_S S2 nc w (dl_ads Ls1 (dl_ls M s (ct_fl a) ++ (dl_ls M s (ct_fl b) ++ dl_ls M s (ct_fl c)))) → cf_W dl_WS M S2 → K2 (.inl none) S2 0) →
        am_in (Int32.ofNat (2400 + q)) 8192 ∧ ∀ x3, x3 = S.1 94 (2400 + q) → cm_At (am_XX L xs) (D + 1) 272 0 [some (.ref 83), some (.int x3), some (.int s)] [] S (fun r S4 k5 => cm_r0 (am_in (Int32.ofNat (2400 + q)) 8192 ∧ ∀ x7, x7 = S4.1 95 (2400 + q) → cm_At (am_XX L xs) (D + 1) 272 0 [some (.ref 83), some (.int x7), some (.int s)] [] S4 (fun r S8 k9 => cm_r0 (am_in (Int32.ofNat (2400 + q)) 8192 ∧ ∀ x11, x11 = S8.1 96 (2400 + q) → cm_At (am_XX L xs) (D + 1) 272 0 [some (.ref 83), some (.int x11), some (.int s)] [] S8 (fun r S12 k13 => cm_r0 ((cm_sh (cm_sh (cm_sh K2 k5) k9) k13) (.inl none) S12 0) (fun e14 => (cm_sh (cm_sh K2 k5) k9) (.inr e14) S12 k13) r)) (fun e10 => (cm_sh K2 k5) (.inr e10) S8 k9) r)) (fun e6 => K2 (.inr e6) S4 k5) r) := fun S Ls1 K2 g1 g2 g3 gv g4 => by
      have va : ∀ c2, c2 ∈ dl_ls M s (ct_fl a) → dl_v nc c2 := fun c2 h => gv c2 (List.mem_append_left _ h)
      have vb : ∀ c2, c2 ∈ dl_ls M s (ct_fl b) → dl_v nc c2 := fun c2 h => gv c2 (List.mem_append_right _ (List.mem_append_left _ h))
      refine ⟨cp_in hq (by decide), ?_⟩
      intro x3 h3
      rw [h3, (g3 94 (2400 + q) (decide_eq_false (by omega))).1, hnn.2.2.1]
      refine part a x (q + 1) pa la2 ha (by omega) iha S Ls1 _ g1 g2 g3 (fun S4 a1 a2 => cp_r0 ?_)
      have ok1 := dl_ads_ok hM.2.1 _ _ g2 va
      refine ⟨cp_in hq (by decide), ?_⟩
      intro x7 h7
      rw [h7, (a2 95 (2400 + q) (decide_eq_false (by omega))).1, hnn.2.2.2.1]
      refine part b y (q + 1 + ct_sz a) pb lb2 hb (by omega) ihb S4 _ _ a1 ok1 a2 (fun S8 b1 b2 => cp_r0 ?_)
      have ok2 := dl_ads_ok hM.2.1 _ _ ok1 vb
      refine ⟨cp_in hq (by decide), ?_⟩
      intro x11 h11
      rw [h11, (b2 96 (2400 + q) (decide_eq_false (by omega))).1, hnn.2.2.2.2]
      refine part c z (q + 1 + ct_sz a + ct_sz b) pc lc2 hc (by omega) ihc S8 _ _ b1 ok2 b2 (fun S12 c1 c2 => cp_r0 ?_)
      refine g4 S12 ?_ c2
      rw [dl_ads_app, dl_ads_app]
      exact c1
    refine cx_272_0 _ _ ⟨fun hx => absurd hx (cp_m1 (by omega)), fun _ => ?_⟩
    rw [cp_cl (n := 2400 + q) (by omega)]
    refine ⟨cp_in hq (by decide), ?_⟩
    intro x1 h1
    rw [h1, (fS 92 (2400 + q) (decide_eq_false (by omega))).1, (dm_nk hnn).1, ← hed.1]
    by_cases h2 : e.1 = 2
    · rw [if_pos h2] at hv k
      have hvc := hv _ List.mem_cons_self
      refine ⟨fun _ => ⟨cp_in hq (by decide), ?_⟩, fun hx => absurd h2 hx⟩
      intro x31 h31
      rw [h31, (fS 97 (2400 + q) (decide_eq_false (by omega))).1, (dm_nk hnn).2.2.1]
      have hMS := dl_MS hM fS
      refine dm_251 (d := D) (hMS.1 g hn0.1) (dm_nm1 hn0 hnw hed (Or.inl h2)) hMS.2.2.2.2.2.2.2.2.2.1 (by have := hM.2.2.1; omega) hs (cp_r1 ?_)
      refine cp_271 (d := D) hS hok hM.2.1 hvc (fun S3 a1 a2 => cp_r0 ?_)
      have f3 := cf_tr fS a2
      refine ⟨cp_in hq (by decide), ?_⟩
      intro x39 h39
      rw [h39, (f3 92 (2400 + q) (decide_eq_false (by omega))).1, (dm_nk hnn).1, ← hed.1]
      refine ⟨fun hx => absurd (h2.symm.trans hx) (by decide), fun _ => ?_⟩
      simp only [dk_sh0]
      exact rest S3 _ K a1 (dl_ad_ok hok hM.2.1 hvc) f3 (fun c2 h => hv c2 (List.mem_append_right _ h)) k
    · rw [if_neg h2] at hv k
      refine ⟨fun hx => absurd hx h2, fun _ => ⟨cp_in hq (by decide), ?_⟩⟩
      intro x2 h4
      rw [h4]
      by_cases h3 : e.1 = 3
      · rw [if_pos h3] at hv k
        have hvc := hv _ List.mem_cons_self
        refine ⟨fun _ => ⟨cp_in hq (by decide), ?_⟩, fun hx => absurd h3 hx⟩
        intro x15 h15
        rw [h15, (fS 93 (2400 + q) (decide_eq_false (by omega))).2, (dm_nk hnn).2.1, ← hed.2.1]
        obtain ⟨i, hi, hie⟩ := cu_l64 (m := 8) (by omega) ((dt_w_nd hn0.2.2.2.1).2.1.1 h3)
        have hi32 : e.2.1.toInt32 = Int32.ofNat i := by rw [hie]; exact (dk_i64 hi).2
        have hce : dm_ce e.2.1.toInt32 = e.2.1.toInt32 := by
          rw [hi32, dm_ce_at (by omega), show dm_mc i = i by unfold dm_mc; rw [if_pos (by omega)]]
        have h271 := fun (K3 : cm_K) (hk3 : ∀ S2, dl_S S2 nc w (dl_ad Ls e.2.1.toInt32) → cf_W dl_WS S S2 → K3 (.inl none) S2 0) => cp_271 (L := L) (xs := xs) (d := D) (K := K3) hS hok hM.2.1 hvc hk3
        rw [hce] at h271
        refine h271 _ (fun S3 a1 a2 => cp_r0 ?_)
        have f3 := cf_tr fS a2
        simp only [dk_sh0]
        exact rest S3 _ K a1 (dl_ad_ok hok hM.2.1 hvc) f3 (fun c2 h => hv c2 (List.mem_append_right _ h)) k
      · rw [if_neg h3] at hv k
        refine ⟨fun hx => absurd hx h3, fun _ => ?_⟩
        exact rest S Ls K hS hok fS hv k)
end CPa44
