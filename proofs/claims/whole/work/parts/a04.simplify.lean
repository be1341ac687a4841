/-! ## a04 Passes of the class: simplifications -/
theorem cu_lgl {x y : Int64} : lg_cmp x y < 0 ↔ x < y := by
  unfold lg_cmp
  by_cases h1 : x > y
  · rw [if_pos h1]
    refine ⟨fun h => absurd h (by decide), fun h => ?_⟩
    rw [Int64.lt_iff_toInt_lt] at h
    have h1' : y < x := h1
    rw [Int64.lt_iff_toInt_lt] at h1'
    omega
  · rw [if_neg h1]
    by_cases h2 : x = y
    · rw [if_pos h2]
      refine ⟨fun h => absurd h (by decide), fun h => ?_⟩
      rw [h2, Int64.lt_iff_toInt_lt] at h
      omega
    · rw [if_neg h2]
      refine ⟨fun _ => ?_, fun _ => by decide⟩
      have h1' : ¬ y < x := h1
      rw [Int64.lt_iff_toInt_lt] at h1' ⊢
      have h3 : ¬ x.toInt = y.toInt := fun hc => h2 (Int64.toInt_inj.mp hc)
      omega
section CPa04
variable {L : Nat} {xs : Nat → Int32} {d : Nat} {S : cm_S} {K : cm_K} {n p : Nat} {e : ct_D} {a b c : ct_T}
/-- a LET -/
theorem cp_90 (hd : dk_d S [] n) (hn : n < 900000000) (ht : ck_t S 44 p (ct_nd e a b c)) (hw : dt_w (ct_nd e a b c)) (hbd : dt_bd n (ct_nd e a b c)) (he : e.1 = 6) (hsa : ct_sz a ≤ 150) (hsb : ct_sz b ≤ 150) (k : dk_st (dt_le n e a b) S K) :
    cm_At (am_XX L xs) (d + 5) 90 0 [some (.ref 37), some (.int (Int32.ofNat p)), none, none, none, none, none, none] [] S K := by
  obtain ⟨p1, p2, pa, pb, pc⟩ := dt_w_nd hw
  obtain ⟨la, lb, lc⟩ := ct_q2 hw.1 (Or.inr (Or.inl he))
  have ht2 := ht
  rw [ck_t_nd] at ht2
  obtain ⟨t0, t1, t2, t3, t4, t5⟩ := ht2
  unfold dt_le at k
  have hcnle := Nat.le_trans (ct_cn_le (x := e.2.2.1) (ct_fl b)) (by rw [ct_fl_len]; exact hsb)
  have hnb := dt_nb_sz pa.1
  have hmul : ct_cn e.2.2.1 (ct_fl b) * dt_nb a ≤ 150 * 150 := Nat.mul_le_mul hcnle (by omega)
  have hmul2 : ct_cn e.2.2.1 (ct_fl b) * ct_sz a ≤ 150 * 150 := Nat.mul_le_mul hcnle hsa
  have hba := (dt_bd_nd hbd).1
  refine cx_90_0 _ ?_
  refine cp_9 (by decide) (cp_r1 ?_)
  rw [dk_v ht hw.1 dt_ndl, show (dt_e (ct_nd e a b c)).2.2.1 = e.2.2.1 from rfl]
  refine cp_14 (by decide) (cp_r1 ?_)
  refine cp_15 (by decide) (cp_r1 ?_)
  rw [cp_2nd (a := 44) (by decide) ht hw.1 la, dk_1]
  refine cp_25 (by decide) pb.1 lb t4 (cp_r1 ?_)
  have i0 : Int32.ofNat (ct_cn e.2.2.1 (ct_fl b)) = 0 ↔ ct_cn e.2.2.1 (ct_fl b) = 0 := by rw [show (0 : Int32) = Int32.ofNat 0 from rfl, cp_inj (by omega) (by omega)]
  have i1 : Int32.ofNat (ct_cn e.2.2.1 (ct_fl b)) = 1 ↔ ct_cn e.2.2.1 (ct_fl b) = 1 := by rw [show (1 : Int32) = Int32.ofNat 1 from rfl, cp_inj (by omega) (by omega)]
  rw [i0, i1]
  refine ⟨fun h0 => ?_, fun h0 => ?_⟩
  · rw [if_pos h0] at k
    refine cp_52 (Or.inl rfl) hd pb.1 lb t4 (by rw [List.length_nil]; omega) (fun S1 d1 c1 => cp_r0 ⟨Or.inr rfl, ?_⟩)
    exact k S1 d1 c1
  · rw [if_neg h0] at k
    have g136 : ∀ (q5 q6 q7 : Int32) (K2 : cm_K), (dt_at (dt_k a) = true ∨ (ct_cn e.2.2.1 (ct_fl b) = 1 ∧ ct_cw e.2.2.1 b = 0) ∨ (dt_k a = 4 ∧ ct_sz a ≤ 6)) → (∀ S2, K (.inl (some (.int 1))) S2 0 → K2 (.inl (some (.int 1))) S2 0) → cm_At (am_XX L xs) (d + 5) 90 136 [some (.ref 37), some (.int (Int32.ofNat p)), some (.int e.2.2.1), some (.int (Int32.ofNat (p + 1))), some (.int (Int32.ofNat (p + 1 + ct_sz a))), some (.int q5), some (.int q6), some (.int q7)] [] S K2 := by
      intro q5 q6 q7 K2 hc hK
      rw [if_pos hc] at k
      refine cx_90_136 _ _ _ _ _ _ _ ?_
      refine cp_54 hd pb.1 lb pa la hba t4 t3 (by rw [List.length_nil]; omega) (by omega) (fun S1 d1 c1 => cp_r0 ⟨Or.inr rfl, ?_⟩)
      exact hK S1 (k S1 d1 c1)
    have g115 : ∀ (q5 q6 : Int32) (K2 : cm_K), (¬ q6 = 0 → (ct_cn e.2.2.1 (ct_fl b) = 1 ∧ ct_cw e.2.2.1 b = 0)) → (q6 = 0 → ¬ (ct_cn e.2.2.1 (ct_fl b) = 1 ∧ ct_cw e.2.2.1 b = 0)) → ¬ (dt_k a = 4 ∧ ct_sz a ≤ 6) → (∀ S2 x, K (.inl (some (.int x))) S2 0 → K2 (.inl (some (.int x))) S2 0) → cm_At (am_XX L xs) (d + 5) 90 115 [some (.ref 37), some (.int (Int32.ofNat p)), some (.int e.2.2.1), some (.int (Int32.ofNat (p + 1))), some (.int (Int32.ofNat (p + 1 + ct_sz a))), some (.int q5), some (.int q6), none] [] S K2 := by
      intro q5 q6 K2 h1 h2 h3 hK
      refine cx_90_115 _ _ _ _ _ _ ?_
      refine cp_91 t3 pa.1 la (cp_r1 ?_)
      by_cases hat : dt_at (dt_k a) = true
      · rw [if_pos hat]
        exact ⟨fun h => absurd h (by decide), fun _ => g136 _ _ _ _ (Or.inl hat) (fun S2 h => hK S2 1 h)⟩
      · rw [if_neg hat]
        refine ⟨fun _ => ⟨fun hq => ⟨fun _ => ⟨Or.inl rfl, ?_⟩, fun h => absurd rfl h⟩, fun hq => g136 _ _ _ _ (Or.inr (Or.inl (h1 hq))) (fun S2 h => hK S2 1 h)⟩, fun h => absurd rfl h⟩
        rw [if_neg (fun hc => by
          rcases hc with hc | hc | hc
          · exact hat hc
          · exact h2 hq hc
          · exact h3 hc)] at k
        exact hK S 0 k
    have g83 : ∀ (q5 : Int32) (K2 : cm_K), ¬ (ct_cn e.2.2.1 (ct_fl b) = 1 ∧ ct_cw e.2.2.1 b = 0) → (∀ S2 x, K (.inl (some (.int x))) S2 0 → K2 (.inl (some (.int x))) S2 0) → cm_At (am_XX L xs) (d + 5) 90 83 [some (.ref 37), some (.int (Int32.ofNat p)), some (.int e.2.2.1), some (.int (Int32.ofNat (p + 1))), some (.int (Int32.ofNat (p + 1 + ct_sz a))), some (.int q5), none, none] [] S K2 := by
      intro q5 K2 hno hK
      refine cx_90_83 _ _ _ _ _ ?_
      refine cp_8 (by decide) (cp_r1 ?_)
      rw [dk_k t3 pa.1 la]
      refine ⟨fun h4 => ?_, fun h4 => ?_⟩
      · refine cp_12 (by decide) (cp_r1 ?_)
        rw [dk_z t3 pa.1 la, show (6 : Int32) = Int32.ofNat 6 from rfl, cp_lt (by omega) (by omega)]
        refine ⟨fun h6 => g115 _ 0 _ (fun h => absurd rfl h) (fun _ => hno) (fun hc => by omega) (fun S2 x h => hK S2 x h), fun h6 => ?_⟩
        have hsm : dt_k a = 4 ∧ ct_sz a ≤ 6 := ⟨h4, by omega⟩
        refine cp_91 t3 pa.1 la (cp_r1 ?_)
        have g := fun (K3 : cm_K) hK3 => g136 q5 0 1 K3 (Or.inr (Or.inr hsm)) hK3
        refine ⟨fun _ => ⟨fun _ => ⟨fun h => absurd h (by decide), fun _ => g _ (fun S2 h => hK S2 1 h)⟩, fun h => absurd rfl h⟩, fun _ => g _ (fun S2 h => hK S2 1 h)⟩
      · exact g115 _ 0 _ (fun h => absurd rfl h) (fun _ => hno) (fun hc => h4 hc.1) (fun S2 x h => hK S2 x h)
    refine ⟨fun h1 => ?_, fun h1 => g83 _ _ (fun hc => h1 hc.1) (fun S2 x h => h)⟩
    refine cp_26 (by decide) pb.1 lb t4 (cp_r1 ?_)
    by_cases hcw : ct_cw e.2.2.1 b = 0
    case neg =>
      rw [if_neg hcw]
      exact ⟨fun h => absurd h (by decide), fun _ => g83 _ _ (fun hc => hcw hc.2) (fun S2 x h => h)⟩
    case pos =>
      rw [if_pos hcw]
      refine ⟨fun _ => ?_, fun h => absurd rfl h⟩
      refine cp_8 (by decide) (cp_r1 ?_)
      rw [dk_k t3 pa.1 la]
      refine ⟨fun h4 => ?_, fun h4 => ?_⟩
      · refine cp_12 (by decide) (cp_r1 ?_)
        rw [dk_z t3 pa.1 la, show (6 : Int32) = Int32.ofNat 6 from rfl, cp_lt (by omega) (by omega)]
        refine ⟨fun h6 => g115 _ 1 _ (fun _ => ⟨h1, hcw⟩) (fun h => absurd h (by decide)) (fun hc => by omega) (fun S2 x h => h), fun h6 => ?_⟩
        refine cp_91 t3 pa.1 la (cp_r1 ?_)
        have g := fun (K3 : cm_K) hK3 => g136 (Int32.ofNat (ct_cn e.2.2.1 (ct_fl b))) 1 1 K3 (Or.inr (Or.inl ⟨h1, hcw⟩)) hK3
        refine ⟨fun _ => ⟨fun h => absurd h (by decide), fun _ => g _ (fun S2 h => h)⟩, fun _ => g _ (fun S2 h => h)⟩
      · exact g115 _ 1 _ (fun _ => ⟨h1, hcw⟩) (fun h => absurd h (by decide)) (fun hc => h4 hc.1) (fun S2 x h => h)
/-- a MATCH -/
theorem cp_92 (hd : dk_d S [] n) (ht : ck_t S 44 p (ct_nd e a b c)) (hw : dt_w (ct_nd e a b c)) (he : e.1 = 12) (hsz : ct_sz (ct_nd e a b c) < 50000) (k : dk_st (dt_ma n e a b c) S K) :
    cm_At (am_XX L xs) (d + 5) 92 0 [some (.ref 37), some (.int (Int32.ofNat p)), none] [] S K := by
  obtain ⟨p1, p2, pa, pb, pc⟩ := dt_w_nd hw
  obtain ⟨la, lb, lc⟩ := ct_q3 hw.1 (Or.inl he)
  have hszn := ct_sz_nd (e := e) (a := a) (b := b) (c := c)
  have ht2 := ht
  rw [ck_t_nd] at ht2
  obtain ⟨t0, t1, t2, t3, t4, t5⟩ := ht2
  unfold dt_ma at k
  refine cx_92_0 _ ?_
  refine cp_14 (by decide) (cp_r1 ?_)
  rw [dk_1]
  refine cp_8 (by decide) (cp_r1 ?_)
  rw [dk_k t3 pa.1 la]
  refine ⟨fun h10 => ?_, fun h10 => ?_⟩
  · rw [if_pos h10] at k
    refine cp_15 (by decide) (cp_r1 ?_)
    rw [cp_2nd (a := 44) (by decide) ht hw.1 la]
    refine cp_52 (Or.inl rfl) hd pb.1 lb t4 (by rw [List.length_nil]; omega) (fun S1 d1 c1 => cp_r0 ⟨Or.inr rfl, ?_⟩)
    exact k S1 d1 c1
  · rw [if_neg h10] at k
    refine cp_8 (by decide) (cp_r1 ?_)
    rw [dk_k t3 pa.1 la]
    refine ⟨fun h11 => ?_, fun h11 => ?_⟩
    · rw [if_pos h11] at k
      obtain ⟨f, x, y, z, rfl⟩ := ct_cs pa.1 la
      have h11' : f.1 = 11 := h11
      obtain ⟨lx, ly, lz⟩ := ct_q2 pa.1 (Or.inr (Or.inr (Or.inr (Or.inr (Or.inr h11')))))
      obtain ⟨q1, q2, px, py, pz⟩ := dt_w_nd pa
      have hsza := ct_sz_nd (e := f) (a := x) (b := y) (c := z)
      have t3' := t3
      rw [ck_t_nd] at t3'
      obtain ⟨u0, u1, u2, u3, u4, u5⟩ := t3'
      refine cp_9 (by decide) (cp_r1 ?_)
      rw [dk_v ht hw.1 dt_ndl]
      refine cp_50 hd (by rw [List.length_nil]; omega) (fun S1 d1 c1 => cp_r0 ?_)
      refine cp_14 (by decide) (cp_r1 ?_)
      rw [dk_1]
      refine cp_52 (Or.inl rfl) d1 px.1 lx (dk_fr (Or.inl rfl) c1 u3) (by simp only [List.length_append, List.length_cons, List.length_nil]; omega) (fun S2 d2 c2 => cp_r0 ?_)
      have c12 := cf_tr c1 c2
      refine cp_10 (by decide) (cp_r1 ?_)
      rw [dk_w (dk_fr (Or.inl rfl) c12 ht) hw.1 dt_ndl]
      refine cp_50 d2 (by simp only [List.length_append, List.length_cons, List.length_nil, ct_fl_len]; omega) (fun S3 d3 c3 => cp_r0 ?_)
      have c13 := cf_tr c12 c3
      refine cp_15 (by decide) (cp_r1 ?_)
      rw [cp_2nd (a := 44) (by decide) (dk_fr (Or.inl rfl) c13 t3) pa.1 lx]
      refine cp_52 (Or.inl rfl) d3 py.1 ly (dk_fr (Or.inl rfl) c13 u4) (by simp only [List.length_append, List.length_cons, List.length_nil, ct_fl_len]; omega) (fun S4 d4 c4 => cp_r0 ?_)
      have c14 := cf_tr c13 c4
      refine cp_16 (by decide) (cp_r1 ?_)
      rw [cp_3rd (a := 44) (by decide) (dk_fr (Or.inl rfl) c14 ht) hw.1 la lb]
      refine cp_52 (Or.inl rfl) d4 pc.1 lc (dk_fr (Or.inl rfl) c14 t5) (by simp only [List.length_append, List.length_cons, List.length_nil, ct_fl_len]; omega) (fun S5 d5 c5 => cp_r0 ⟨Or.inr rfl, ?_⟩)
      refine k S5 ?_ (cf_tr c14 c5)
      have e1 : ct_fl (dt_LET e.2.2.1 x (dt_LET e.2.2.2 y c)) = [] ++ [((6 : Int32), (0 : Int64), e.2.2.1, (-1 : Int32))] ++ ct_fl x ++ [((6 : Int32), (0 : Int64), e.2.2.2, (-1 : Int32))] ++ ct_fl y ++ ct_fl c := by
        unfold dt_LET
        rw [ct_fl_nd, ct_fl_nd]
        show _ :: (ct_fl x ++ (_ :: (ct_fl y ++ (ct_fl c ++ [])) ++ [])) = _
        simp
      rw [show ct_fl (dt_LET e.2.2.1 (dt_a (ct_nd f x y z)) (dt_LET e.2.2.2 (dt_b (ct_nd f x y z)) c)) = ct_fl (dt_LET e.2.2.1 x (dt_LET e.2.2.2 y c)) from rfl, e1]
      exact d5
    · rw [if_neg h11] at k
      refine cp_89 hd ht hw (Or.inr (Or.inl he)) hsz (fun hk S2 d2 c2 => cp_r1 ⟨Or.inr rfl, ?_⟩) (fun hk => cp_r1 ⟨Or.inl rfl, ?_⟩)
      · rw [if_pos hk] at k
        exact k S2 d2 c2
      · rw [if_neg hk] at k
        exact k
/-- a TEST -/
theorem cp_93 (hd : dk_d S [] n) (ht : ck_t S 44 p (ct_nd e a b c)) (hw : dt_w (ct_nd e a b c)) (he : e.1 = 13) (hsz : ct_sz (ct_nd e a b c) < 50000) (k : dk_st (dt_te n e a b c) S K) :
    cm_At (am_XX L xs) (d + 5) 93 0 [some (.ref 37), some (.int (Int32.ofNat p)), none] [] S K := by
  obtain ⟨p1, p2, pa, pb, pc⟩ := dt_w_nd hw
  obtain ⟨la, lb, lc⟩ := ct_q3 hw.1 (Or.inr he)
  have hszn := ct_sz_nd (e := e) (a := a) (b := b) (c := c)
  have ht2 := ht
  rw [ck_t_nd] at ht2
  obtain ⟨t0, t1, t2, t3, t4, t5⟩ := ht2
  unfold dt_te at k
  refine cx_93_0 _ ?_
  refine cp_14 (by decide) (cp_r1 ?_)
  rw [dk_1]
  refine cp_8 (by decide) (cp_r1 ?_)
  rw [dk_k t3 pa.1 la]
  refine ⟨fun h1 => ?_, fun h1 => ?_⟩
  · rw [if_pos h1] at k
    refine cp_11 (by decide) (cp_r2 ?_)
    rw [dk_n t3 pa.1 la, cu_lg]
    refine ⟨fun h0 => ?_, fun h0 => ?_⟩
    · rw [if_pos h0] at k
      refine cp_16 (by decide) (cp_r1 ?_)
      rw [cp_3rd (a := 44) (by decide) ht hw.1 la lb]
      refine cp_52 (Or.inl rfl) hd pc.1 lc t5 (by rw [List.length_nil]; omega) (fun S1 d1 c1 => cp_r0 ⟨Or.inr rfl, ?_⟩)
      exact k S1 d1 c1
    · rw [if_neg h0] at k
      refine cp_15 (by decide) (cp_r1 ?_)
      rw [cp_2nd (a := 44) (by decide) ht hw.1 la]
      refine cp_52 (Or.inl rfl) hd pb.1 lb t4 (by rw [List.length_nil]; omega) (fun S1 d1 c1 => cp_r0 ⟨Or.inr rfl, ?_⟩)
      exact k S1 d1 c1
  · rw [if_neg h1] at k
    refine cp_89 hd ht hw (Or.inr (Or.inr he)) hsz (fun hk S2 d2 c2 => cp_r1 ⟨Or.inr rfl, ?_⟩) (fun hk => cp_r1 ⟨Or.inl rfl, ?_⟩)
    · rw [if_pos hk] at k
      exact k S2 d2 c2
    · rw [if_neg hk] at k
      exact k
theorem cp_170 {s x y : Int64} (k : K (.inl (some (.long (dt_cnt s x y)))) S 0) : cm_At (am_XX L xs) (d + 1) 170 0 [some (.int s.toInt32), some (.long x), none, some (.long y), none] [] S K := by
  unfold dt_cnt at k
  refine cx_170_0 _ _ _ ?_
  rw [cp_k6 (n := 0) (m := 0) rfl, cp_k6 (n := 1) (m := 1) rfl, cp_k6 (n := 2) (m := 2) rfl, cp_k6 (n := 3) (m := 3) rfl]
  refine ⟨fun h => ?_, fun h0 => ⟨fun h => ?_, fun h1 => ⟨fun h => ?_, fun h2 => ⟨fun h => ⟨fun hl => ?_, fun hl => ?_⟩, fun h3 => ⟨fun hl => ?_, fun hl => ?_⟩⟩⟩⟩⟩
  · rw [if_pos h] at k; exact k
  · rw [if_neg h0, if_pos h] at k; exact k
  · rw [if_neg h0, if_neg h1, if_pos h] at k; exact k
  · rw [if_neg h0, if_neg h1, if_neg h2, if_pos h, if_pos (cu_lgl.mp hl)] at k; exact k
  · rw [if_neg h0, if_neg h1, if_neg h2, if_pos h, if_neg (fun hc => hl (cu_lgl.mpr hc))] at k; exact k
  · rw [if_neg h0, if_neg h1, if_neg h2, if_neg h3, if_pos (cu_lg.mp hl)] at k; exact k
  · rw [if_neg h0, if_neg h1, if_neg h2, if_neg h3, if_neg (fun hc => hl (cu_lg.mpr hc))] at k; exact k
/-- a PRIMITIVE -/
theorem cp_94 (hd : dk_d S [] n) (ht : ck_t S 44 p (ct_nd e a b c)) (hw : dt_w (ct_nd e a b c)) (he : e.1 = 9) (k : dk_st (dt_pr n e a b) S K) :
    cm_At (am_XX L xs) (d + 5) 94 0 [some (.ref 37), some (.int (Int32.ofNat p)), none, none, none] [] S K := by
  obtain ⟨p1, p2, pa, pb, pc⟩ := dt_w_nd hw
  obtain ⟨la, lb, lc⟩ := ct_q2 hw.1 (Or.inr (Or.inr (Or.inr (Or.inr (Or.inl he)))))
  have ht2 := ht
  rw [ck_t_nd] at ht2
  obtain ⟨t0, t1, t2, t3, t4, t5⟩ := ht2
  unfold dt_pr at k
  refine cx_94_0 _ ?_
  refine cp_14 (by decide) (cp_r1 ?_)
  refine cp_15 (by decide) (cp_r1 ?_)
  rw [cp_2nd (a := 44) (by decide) ht hw.1 la, dk_1]
  refine cp_8 (by decide) (cp_r1 ?_)
  rw [dk_k t3 pa.1 la]
  refine ⟨fun h1 => ?_, fun h1 => ⟨Or.inl rfl, ?_⟩⟩
  · refine cp_8 (by decide) (cp_r1 ?_)
    rw [dk_k t4 pb.1 lb]
    refine ⟨fun h2 => ?_, fun h2 => ⟨Or.inl rfl, ?_⟩⟩
    · rw [if_pos ⟨h1, h2⟩] at k
      refine cp_11 (by decide) (cp_r2 ?_)
      rw [dk_n ht hw.1 dt_ndl]
      refine cp_11 (by decide) (cp_r2 ?_)
      rw [dk_n t3 pa.1 la]
      refine cp_11 (by decide) (cp_r2 ?_)
      rw [dk_n t4 pb.1 lb]
      refine cp_170 (cp_r2 ?_)
      refine cp_50 hd (by rw [List.length_nil]; omega) (fun S1 d1 c1 => cp_r0 ⟨Or.inr rfl, ?_⟩)
      exact k S1 d1 c1
    · rw [if_neg (fun hc => h2 hc.2)] at k
      exact k
  · rw [if_neg (fun hc => h1 hc.1)] at k
    exact k
/-- a simplification -/
theorem cp_86 {U : Nat → ct_T} (hU : ct_ds U) (hdU : ck_d S 27 U) (hd : dk_d S [] n) (hn150 : 150 ≤ n) (hn : n < 900000000) (ht : ck_t S 44 p (ct_nd e a b c)) (hw : dt_w (ct_nd e a b c)) (hbd : dt_bd n (ct_nd e a b c)) (hsa : ct_sz a ≤ 150) (hsb : ct_sz b ≤ 150) (hsc : ct_sz c ≤ 150) (k : dk_st (dt_si (dt_U U) n e a b c) S K) :
    cm_At (am_XX L xs) (d + 6) 86 0 [some (.ref 37), some (.int (Int32.ofNat p))] [] S K := by
  have hszn := ct_sz_nd (e := e) (a := a) (b := b) (c := c)
  unfold dt_si at k
  refine cx_86_0 _ ?_
  refine cp_8 (by decide) (cp_r1 ?_)
  rw [dk_k ht hw.1 dt_ndl, show dt_k (ct_nd e a b c) = e.1 from rfl]
  have out : ∀ {r : Option (ct_T × Nat)} {K2 : cm_K}, dk_st r S K2 → dk_st r S (fun r S2 k2 => cm_r1 (fun x => (x = 0 ∨ x = 1) ∧ K2 (.inl (some (.int x))) S2 k2) (fun e => K2 (.inr e) S2 k2) r) := fun {r K2} h => by
    cases r with
    | none => exact ⟨Or.inl rfl, h⟩
    | some q => exact fun S2 d2 c2 => ⟨Or.inr rfl, h S2 d2 c2⟩
  have k0 : (¬ e.1 = 5 ∧ ¬ e.1 = 6 ∧ ¬ e.1 = 9 ∧ ¬ e.1 = 12 ∧ ¬ e.1 = 13) → K (.inl (some (.int 0))) S 0 := fun h => by
    rw [if_neg h.1, if_neg h.2.1, if_neg h.2.2.2.1, if_neg h.2.2.2.2, if_neg h.2.2.1] at k
    exact k
  rw [cp_k6 (n := 5) (m := 5) rfl, cp_k6 (n := 6) (m := 6) rfl, cp_k6 (n := 7) (m := 7) rfl, cp_k6 (n := 8) (m := 8) rfl, cp_k6 (n := 9) (m := 9) rfl, cp_k6 (n := 10) (m := 10) rfl, cp_k6 (n := 11) (m := 11) rfl, cp_k6 (n := 12) (m := 12) rfl, cp_k6 (n := 13) (m := 13) rfl]
  refine ⟨fun h5 => ?_, fun h5 => ?_⟩
  · rw [if_pos h5] at k
    exact cp_87 hU hdU hd hn150 (by omega) ht hw h5 (by omega) (out k)
  refine ⟨fun h6 => ?_, fun h6 => ?_⟩
  · rw [if_neg h5, if_pos h6] at k
    exact cp_90 hd hn ht hw hbd h6 hsa hsb (out k)
  refine ⟨fun h7 => ⟨Or.inl rfl, k0 (by rw [h7]; decide)⟩, fun h7 => ?_⟩
  refine ⟨fun h8 => ⟨Or.inl rfl, k0 (by rw [h8]; decide)⟩, fun h8 => ?_⟩
  refine ⟨fun h9 => ?_, fun h9 => ?_⟩
  · rw [if_neg h5, if_neg h6, if_neg (by rw [h9]; decide), if_neg (by rw [h9]; decide), if_pos h9] at k
    exact cp_94 hd ht hw h9 (out k)
  refine ⟨fun h10 => ⟨Or.inl rfl, k0 (by rw [h10]; decide)⟩, fun h10 => ?_⟩
  refine ⟨fun h11 => ⟨Or.inl rfl, k0 (by rw [h11]; decide)⟩, fun h11 => ?_⟩
  refine ⟨fun h12 => ?_, fun h12 => ?_⟩
  · rw [if_neg h5, if_neg h6, if_pos h12] at k
    exact cp_92 hd ht hw h12 (by omega) (out k)
  refine ⟨fun h13 => ?_, fun h13 => ?_⟩
  · rw [if_neg h5, if_neg h6, if_neg h12, if_pos h13] at k
    exact cp_93 hd ht hw h13 (by omega) (out k)
  exact ⟨Or.inl rfl, k0 ⟨h5, h6, h9, h12, h13⟩⟩
end CPa04
