/-! ## 81 the model finds what is needed in a tree -/
section CP81
variable {L : Nat} {xs : Nat → Int32} {T U : Nat → ct_T} {Q : Nat → Nat → Bool}
theorem cp_241 (hQ : ∀ g k, Q g k = true → k < cu_M U g) : ∀ (n : Nat) (u : ct_T), ct_wf u → ct_sz u ≤ n → cl_ned L xs T U Q u
  | 0, u, hw, hn => fun D S p fp l K hD ht hl => absurd (ct_sz_ne hw hl) (by omega)
  | n + 1, u, hw, hn => by
    have hih : ∀ v, ct_wf v → ct_sz v ≤ n → cl_ned L xs T U Q v := fun v h1 h2 => cp_241 hQ n v h1 h2
    revert hn
    refine ct_ind (P := fun u => ct_sz u ≤ n + 1 → cl_ned L xs T U Q u) (fun _ D S p fp l K hD ht hl => absurd rfl hl) (fun e a b c hw _ _ _ hn D S p fp l K hD ht hl hnu hol hnw hq hle k => ?_) u hw
    obtain ⟨w1, w2, w3, w4, w5, w6, w7⟩ := ct_wf_nd hw
    have ht0 := ht
    obtain ⟨i, fa, fb, fc, rfl, h2, h3, h4, h5, h6, rfl⟩ := ht
    have hszn := ct_sz_nd (e := e) (a := a) (b := b) (c := c)
    obtain ⟨D, rfl⟩ : ∃ d, D = d + 6 := ⟨D - 6, by omega⟩
    obtain ⟨u1, u2, u3, u4⟩ := ct_nus_nd hnu
    obtain ⟨o1, o2, o3, o4⟩ := cu_ol_nd hol
    obtain ⟨n1, n2, n3, n4⟩ := ct_nws_nd hnw
    refine cp_241z (d := D + 5) (by omega) (fun S0 c0 e0 s0 => ?_)
    have q0 := cl_q_e e0 hq
    have t0 : cl_t S0 (ct_nd e a b c) (Int32.ofNat i) (i :: (fa ++ (fb ++ fc))) := cl_t_fr c0 (fun b j q1 q2 => decide_eq_false (by omega)) hw ht0
    have ta : ∀ {S1 : cm_S}, cf_W (cW_lv l (l + ct_sz (ct_nd e a b c))) S0 S1 → cl_t S1 a (S0.1 94 i) fa := fun c1 => by
      rw [e0]
      exact cl_t_fr c1 (fun b j q1 q2 => decide_eq_false (by omega)) w5 (cl_t_fr c0 (fun b j q1 q2 => decide_eq_false (by omega)) w5 h4)
    have tb : ∀ {S1 : cm_S}, cf_W (cW_lv l (l + ct_sz (ct_nd e a b c))) S0 S1 → cl_t S1 b (S0.1 95 i) fb := fun c1 => by
      rw [e0]
      exact cl_t_fr c1 (fun b j q1 q2 => decide_eq_false (by omega)) w6 (cl_t_fr c0 (fun b j q1 q2 => decide_eq_false (by omega)) w6 h5)
    have tc : ∀ {S1 : cm_S}, cf_W (cW_lv l (l + ct_sz (ct_nd e a b c))) S0 S1 → cl_t S1 c (S0.1 96 i) fc := fun c1 => by
      rw [e0]
      exact cl_t_fr c1 (fun b j q1 q2 => decide_eq_false (by omega)) w7 (cl_t_fr c0 (fun b j q1 q2 => decide_eq_false (by omega)) w7 h6)
    have c0' : cf_W (cW_lv l (l + ct_sz (ct_nd e a b c))) S S0 := cf_mono c0 (fun b j h => decide_eq_true (by have h := of_decide_eq_true h; omega))
    have x1 : S0.1 92 i = e.1 := by rw [e0, ← h3]
    have x3 : S0.1 97 i = e.2.2.1 := by rw [e0, ← h3]
    have fin : ∀ {S2 : cm_S} {f : Nat → Bool}, cf_W (cW_lv l (l + ct_sz (ct_nd e a b c))) S0 S2 → S2.1 = S0.1 → cl_sb S2 l f → (∀ v, v < 320 → cu_nq Q (cu_M U) (ct_nd e a b c) v = f v) → K (.inl none) S2 0 := fun c2 e2 s2 hE => k _ (cf_tr c0' c2) (e2.trans e0) (fun w b hw hb => (s2 w b hw hb).trans (hE _ (by omega)).symm)
    have pa : ¬ a = .leaf → ∀ (K2 : cm_K), (∀ S2, cf_W (cW_lv l (l + ct_sz (ct_nd e a b c))) S0 S2 → S2.1 = S0.1 → cl_sb S2 l (fun v => cu_nq Q (cu_M U) a v) → K2 (.inl none) S2 0) → cm_At (am_XX L xs) (D + 5) 240 0 [some (.ref 83), some (.int (Int32.ofNat l)), some (.int (S0.1 94 i))] [] S0 K2 := fun ha K2 k2 => by
      refine cp_240 (hih a w5 (by omega)) (by omega) (ta cf_rfl) ha u2 o2 n2 q0 (by omega) s0 (fun S2 c2 e2 s2 => k2 S2 (cf_mono c2 (fun b j h => decide_eq_true (by have h := of_decide_eq_true h; omega))) e2 ?_)
      rw [← funext (fun v => Bool.false_or (cu_nq Q (cu_M U) a v))]
      exact s2
    have pb : ¬ b = .leaf → ∀ (S1 : cm_S) (f : Nat → Bool) (K2 : cm_K), cf_W (cW_lv l (l + ct_sz (ct_nd e a b c))) S0 S1 → S1.1 = S0.1 → cl_sb S1 l f → (∀ S2, cf_W (cW_lv l (l + ct_sz (ct_nd e a b c))) S0 S2 → S2.1 = S0.1 → cl_sb S2 l (fun v => f v || cu_nq Q (cu_M U) b v) → K2 (.inl none) S2 0) → cm_At (am_XX L xs) (D + 5) 240 0 [some (.ref 83), some (.int (Int32.ofNat l)), some (.int (S0.1 95 i))] [] S1 K2 := fun hb S1 f K2 c1 e1 s1 k2 => by
      exact cp_240 (hih b w6 (by omega)) (by omega) (tb c1) hb u3 o3 n3 (cl_q_e e1 q0) (by omega) s1 (fun S2 c2 e2 s2 => k2 S2 (cf_tr c1 (cf_mono c2 (fun b j h => decide_eq_true (by have h := of_decide_eq_true h; omega)))) (e2.trans e1) s2)
    refine cx_241_2 _ _ _ ⟨fun h => absurd h (by decide), fun _ => ⟨cp_in h2 (by decide), ?_⟩⟩
    rw [cp_cl (by omega)]
    rintro _ rfl
    rw [x1]
    rcases ct_kinds w1 with hk | hk | hk | hk | hk | hk | hk | hk | hk | hk | hk | hk | hk | hk
    all_goals rw [hk]
    all_goals repeat refine ⟨fun h => absurd h (by decide), fun _ => ?_⟩
    · exact fin cf_rfl rfl s0 (fun v _ => by show (cu_n2 _ _ _ _).1 = _; rw [cu_n2_nd, hk]; rfl)
    · obtain ⟨v, hv, hv2, hv3⟩ := ct_nws_vl n1 (Or.inl hk) o1
      obtain ⟨v1, v2⟩ := cu_dw hv
      refine ⟨fun _ => ⟨cp_in h2 (by decide), ?_⟩, fun h => absurd (by decide) h⟩
      rintro _ rfl
      refine ⟨by decide, cp_in h2 (by decide), ?_⟩
      rintro _ rfl
      rw [x3, hv2, v2, v1, cu_5]
      refine ⟨by decide, cp_in (by omega) (by decide), ?_⟩
      rintro _ rfl
      rw [cp_cl (by omega)]
      refine fin (f := fun u => decide (v = u)) (cf_wJ (decide_eq_true (by omega))) rfl ?_ (fun u hu => ?_)
      · intro w b2 hw2 hb2
        have h1 := s0 w b2 hw2 hb2
        rw [cp_wJ2]
        by_cases hwv : w = v / 64
        · subst hwv
          rw [if_pos ⟨rfl, rfl⟩, cu_b_sh (by omega) hb2]
          exact decide_eq_decide.mpr (by omega)
        · rw [if_neg (by omega), h1]
          exact (decide_eq_false (by omega)).symm
      · show (cu_n2 _ _ _ _).1 = _
        rw [cu_n2_nd, if_pos hk, hv2]
        exact decide_eq_decide.mpr (cp_inj (by omega) (by omega))
    · exact fin cf_rfl rfl s0 (fun v _ => by show (cu_n2 _ _ _ _).1 = _; rw [cu_n2_nd, hk]; rfl)
    · exact fin cf_rfl rfl s0 (fun v _ => by show (cu_n2 _ _ _ _).1 = _; rw [cu_n2_nd, hk]; rfl)
    · refine ⟨fun _ => ?_, fun h => absurd (by decide) h⟩
      refine cp_242 (n := ct_sz a + (ct_sz b + ct_sz c)) hQ (fun v h1 h2 => hih v h1 (by omega)) hw hk (by omega) (by omega) (by omega) t0 hnu hol hnw q0 s0 (fun S2 c2 e2 s2 => cp_r0 ?_)
      exact fin (cf_mono c2 (fun b j h => decide_eq_true (by have h := of_decide_eq_true h; omega))) e2 s2 (fun v _ => rfl)
    · refine ⟨fun _ => ⟨cp_in h2 (by decide), ?_⟩, fun h => absurd (by decide) h⟩
      obtain ⟨za, zb, zc⟩ := ct_q2 hw (Or.inr (Or.inl hk))
      obtain ⟨v, hv, hv2, hv3⟩ := ct_nws_vl n1 (Or.inr hk) o1
      have hE : ∀ u, cu_nq Q (cu_M U) (ct_nd e a b c) u = ((cu_nq Q (cu_M U) b u) || ((cu_nq Q (cu_M U) b v) && (cu_nq Q (cu_M U) a u))) := fun u => by show (cu_n2 _ _ _ _).1 = _; rw [cu_n2_nd, if_neg (by rw [hk]; decide), if_neg (by rw [hk]; decide), if_pos hk, hv3]
      rintro _ rfl
      refine pb zb S0 _ _ cf_rfl rfl s0 (fun S1 c1 e1 s1 => cp_r0 ⟨cp_in h2 (by decide), ?_⟩)
      rintro _ rfl
      rw [e1, x3, hv2]
      have s1' : cl_sb S1 l (fun v => cu_nq Q (cu_M U) b v) := by
        rw [← funext (fun v => Bool.false_or (cu_nq Q (cu_M U) b v))]
        exact s1
      refine cp_238 (d := D + 4) (by omega) hv s1' (cp_r1 ?_)
      cases hb : cu_nq Q (cu_M U) b v with
      | false =>
        rw [if_neg (by decide)]
        refine ⟨fun _ => fin c1 e1 s1' (fun u _ => by rw [hE, hb, Bool.false_and, Bool.or_false]), fun h => absurd rfl h⟩
      | true =>
        rw [if_pos rfl]
        refine ⟨fun h => absurd h (by decide), fun _ => ⟨cp_in h2 (by decide), ?_⟩⟩
        rintro _ rfl
        rw [e1]
        refine cp_240 (hih a w5 (by omega)) (by omega) (ta c1) za u2 o2 n2 (cl_q_e e1 q0) (by omega) s1' (fun S2 c2 e2 s2 => cp_r0 ?_)
        refine fin (cf_tr c1 (cf_mono c2 (fun b j h => decide_eq_true (by have h := of_decide_eq_true h; omega)))) (e2.trans e1) s2 (fun u _ => ?_)
        rw [hE, hb, Bool.true_and]
    · refine ⟨fun _ => ⟨cp_in h2 (by decide), ?_⟩, fun h => absurd (by decide) h⟩
      obtain ⟨za, zb, zc⟩ := ct_q2 hw (Or.inr (Or.inr (Or.inl hk)))
      rintro _ rfl
      refine pb zb S0 _ _ cf_rfl rfl s0 (fun S1 c1 e1 s1 => cp_r0 ?_)
      exact fin c1 e1 s1 (fun u _ => by show (cu_n2 _ _ _ _).1 = _; rw [cu_n2_nd, hk]; rfl)
    · refine ⟨fun _ => ⟨cp_in h2 (by decide), ?_⟩, fun h => absurd (by decide) h⟩
      obtain ⟨za, zb, zc⟩ := ct_q2 hw (Or.inr (Or.inr (Or.inr (Or.inl hk))))
      rintro _ rfl
      refine pa za _ (fun S1 c1 e1 s1 => cp_r0 ⟨cp_in h2 (by decide), ?_⟩)
      rintro _ rfl
      rw [e1]
      refine pb zb S1 _ _ c1 e1 s1 (fun S2 c2 e2 s2 => cp_r0 ?_)
      exact fin c2 e2 s2 (fun u _ => by show (cu_n2 _ _ _ _).1 = _; rw [cu_n2_nd, hk]; rfl)
    · refine ⟨fun _ => ⟨cp_in h2 (by decide), ?_⟩, fun h => absurd (by decide) h⟩
      obtain ⟨za, zb, zc⟩ := ct_q2 hw (Or.inr (Or.inr (Or.inr (Or.inr (Or.inl hk)))))
      rintro _ rfl
      refine pa za _ (fun S1 c1 e1 s1 => cp_r0 ⟨cp_in h2 (by decide), ?_⟩)
      rintro _ rfl
      rw [e1]
      refine pb zb S1 _ _ c1 e1 s1 (fun S2 c2 e2 s2 => cp_r0 ?_)
      exact fin c2 e2 s2 (fun u _ => by show (cu_n2 _ _ _ _).1 = _; rw [cu_n2_nd, hk]; rfl)
    · exact fin cf_rfl rfl s0 (fun v _ => by show (cu_n2 _ _ _ _).1 = _; rw [cu_n2_nd, hk]; rfl)
    · exact fin cf_rfl rfl s0 (fun v _ => by show (cu_n2 _ _ _ _).1 = _; rw [cu_n2_nd, hk]; rfl)
    · refine ⟨fun _ => ⟨cp_in h2 (by decide), ?_⟩, fun h => absurd (by decide) h⟩
      have h12 : e.1 = 12 ∨ e.1 = 13 := Or.inl hk
      obtain ⟨za, zb, zc⟩ := ct_q3 hw h12
      have sb0 := ct_sz_ne w6 zb
      have sa0 := ct_sz_ne w5 za
      rintro _ rfl
      refine pa za _ (fun S1 c1 e1 s1 => cp_r0 ⟨cp_in h2 (by decide), ?_⟩)
      rintro _ rfl
      rw [e1, show Int32.ofNat l + 1 = Int32.ofNat (l + 1) from cp_ad (b := 1)]
      refine hih b w6 (by omega) (D + 5) S1 _ fb (l + 1) _ (by omega) (tb c1) zb u3 o3 n3 (cl_q_e e1 q0) (by omega) (fun S2 c2 e2 s2 => cp_r0 ⟨cp_in h2 (by decide), ?_⟩)
      rintro _ rfl
      have c12 : cf_W (cW_lv l (l + ct_sz (ct_nd e a b c))) S0 S2 := cf_tr c1 (cf_mono c2 (fun b j h => decide_eq_true (by have h := of_decide_eq_true h; omega)))
      rw [e2, e1, show Int32.ofNat l + 2 = Int32.ofNat (l + 2) from cp_ad (b := 2)]
      refine hih c w7 (by omega) (D + 5) S2 _ fc (l + 2) _ (by omega) (tc c12) zc u4 o4 n4 (cl_q_e (e2.trans e1) q0) (by omega) (fun S3 c3 e3 s3 => cp_r0 ?_)
      have c123 : cf_W (cW_lv l (l + ct_sz (ct_nd e a b c))) S0 S3 := cf_tr c12 (cf_mono c3 (fun b j h => decide_eq_true (by have h := of_decide_eq_true h; omega)))
      refine cp_241m (d := D + 5) (by omega) (fun S4 c4 e4 s4 => ?_)
      refine fin (cf_tr c123 (cf_mono c4 (fun b j h => decide_eq_true (by have h := of_decide_eq_true h; omega)))) (e4.trans (e3.trans (e2.trans e1))) (s4 _ _ _ (cl_sb_cf c3 (fun j q1 q2 => decide_eq_false (by omega)) (cl_sb_cf c2 (fun j q1 q2 => decide_eq_false (by omega)) s1)) (cl_sb_cf c3 (fun j q1 q2 => decide_eq_false (by omega)) s2) s3) (fun u _ => ?_)
      show (cu_n2 _ _ _ _).1 = _
      rw [cu_n2_nd, hk]
      rfl
    · refine ⟨fun _ => ⟨cp_in h2 (by decide), ?_⟩, fun h => absurd (by decide) h⟩
      have h12 : e.1 = 12 ∨ e.1 = 13 := Or.inr hk
      obtain ⟨za, zb, zc⟩ := ct_q3 hw h12
      have sb0 := ct_sz_ne w6 zb
      have sa0 := ct_sz_ne w5 za
      rintro _ rfl
      refine pa za _ (fun S1 c1 e1 s1 => cp_r0 ⟨cp_in h2 (by decide), ?_⟩)
      rintro _ rfl
      rw [e1, show Int32.ofNat l + 1 = Int32.ofNat (l + 1) from cp_ad (b := 1)]
      refine hih b w6 (by omega) (D + 5) S1 _ fb (l + 1) _ (by omega) (tb c1) zb u3 o3 n3 (cl_q_e e1 q0) (by omega) (fun S2 c2 e2 s2 => cp_r0 ⟨cp_in h2 (by decide), ?_⟩)
      rintro _ rfl
      have c12 : cf_W (cW_lv l (l + ct_sz (ct_nd e a b c))) S0 S2 := cf_tr c1 (cf_mono c2 (fun b j h => decide_eq_true (by have h := of_decide_eq_true h; omega)))
      rw [e2, e1, show Int32.ofNat l + 2 = Int32.ofNat (l + 2) from cp_ad (b := 2)]
      refine hih c w7 (by omega) (D + 5) S2 _ fc (l + 2) _ (by omega) (tc c12) zc u4 o4 n4 (cl_q_e (e2.trans e1) q0) (by omega) (fun S3 c3 e3 s3 => cp_r0 ?_)
      have c123 : cf_W (cW_lv l (l + ct_sz (ct_nd e a b c))) S0 S3 := cf_tr c12 (cf_mono c3 (fun b j h => decide_eq_true (by have h := of_decide_eq_true h; omega)))
      refine cp_241m (d := D + 5) (by omega) (fun S4 c4 e4 s4 => ?_)
      refine fin (cf_tr c123 (cf_mono c4 (fun b j h => decide_eq_true (by have h := of_decide_eq_true h; omega)))) (e4.trans (e3.trans (e2.trans e1))) (s4 _ _ _ (cl_sb_cf c3 (fun j q1 q2 => decide_eq_false (by omega)) (cl_sb_cf c2 (fun j q1 q2 => decide_eq_false (by omega)) s1)) (cl_sb_cf c3 (fun j q1 q2 => decide_eq_false (by omega)) s2) s3) (fun u _ => ?_)
      show (cu_n2 _ _ _ _).1 = _
      rw [cu_n2_nd, hk]
      rfl
    · refine ⟨fun _ => ⟨cp_in h2 (by decide), ?_⟩, fun h => absurd (by decide) h⟩
      obtain ⟨za, zb, zc⟩ := ct_q1 hw (Or.inr hk)
      rintro _ rfl
      refine pa za _ (fun S1 c1 e1 s1 => cp_r0 ?_)
      exact fin c1 e1 s1 (fun u _ => by show (cu_n2 _ _ _ _).1 = _; rw [cu_n2_nd, hk]; rfl)
end CP81
