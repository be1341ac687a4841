/-! ## 63 the model's define -/
section CP63
variable {L : Nat} {xs : Nat → Int32} {N : List ct_E}
theorem cl_i_up {S S2 : cm_S} {T : Nat → ct_T} {i : Nat} {t : ct_T} (hl : ¬ t = .leaf) (h1 : S2.1 102 i = 1) (h2 : ∀ j, j < 8 → ¬ j = i → S2.1 102 j = S.1 102 j) (h : cl_i S T) : cl_i S2 (ct_up T i t) := fun j hj => by
  unfold ct_up
  by_cases hji : j = i
  · rw [if_pos hji, hji]; exact ⟨fun hc => absurd hc hl, fun _ => h1⟩
  · rw [if_neg hji, h2 j hj hji]; exact h j hj
theorem cs_define {T U : Nat → ct_T} {c d : Nat} {p1 p2 : Int32} {S : cm_S} {K : cm_K} (hN : ct_vs N) (hn : cl_n S N) (h1 : cl_d S 0 0 T) (h2 : cl_d S 8 1200 U) (h3 : cl_i S T) (hT : ct_ds T) (hU : ct_ds U) (hcs : cl_cs S c) (hc : c < 2000000000)
    (k0 : ∀ i S2, i < 8 → p1 = Int32.ofNat i → ct_is N p2 → ct_fx (ct_ev N p2) → cl_d S2 0 0 (ct_up T i (ct_can (ct_ev N p2))) → cl_d S2 8 1200 (ct_up U i (ct_can (ct_ev N p2))) → cl_i S2 (ct_up T i (ct_can (ct_ev N p2))) → S2.1 83 75 = 0 → cl_cs S2 (c + 2) → cf_W (cW_md i) S S2 → K (.inl (some (.int (Int32.ofNat (ct_sz (ct_ev N p2)))))) S2 0)
    (k1 : ¬ ct_is N p2 → K (.inl (some (.int 0))) (cm_wI S 83 75 1) 0) (k2 : ct_is N p2 → ¬ (0 ≤ p1.toInt ∧ p1.toInt < 8) → K (.inl (some (.int 0))) (cm_wI S 83 75 2) 0)
    (k3 : ct_is N p2 → 0 ≤ p1.toInt ∧ p1.toInt < 8 → ¬ ct_fx (ct_ev N p2) → ∀ S2, S2.1 83 75 = 3 → cf_W cW_mr S S2 → K (.inl (some (.int 0))) S2 0) :
    cm_At (am_XX L xs) (d + 165) 210 0 [some (.ref 83), some (.int p1), some (.int p2), none] [] S K := by
  refine cx_210_0 _ _ ?_
  refine cp_177 (d := d + 162) hn (fun hp => cp_r1 ⟨fun h => absurd h (by decide), fun _ => ?_⟩) (fun hp => cp_r1 ⟨fun _ => ?_, fun h => absurd rfl h⟩)
  · refine cp_176 (d := d + 162) (fun h8 => cp_r1 ⟨fun h => absurd h (by decide), fun _ => ?_⟩) (fun h8 => cp_r1 ⟨fun _ => ?_, fun h => absurd rfl h⟩)
    · obtain ⟨z1, z2, z3, z4⟩ := ct_ev_sz hN hp
      have hw := ct_ev_w hN hp
      obtain ⟨x1, x2, x3, x4, x5, x6, x7, x8⟩ := ct_ev_xp hN hp
      obtain ⟨i, rfl, hi, hi2⟩ := cp_of h8.1
      have hi8 : i < 8 := by omega
      have hbm : ∀ y, y ∈ ct_bo (ct_ev N p2) → 0 ≤ y.toInt := fun y hy => by
        obtain ⟨q, q1, q2, q3⟩ := x4 y ((ct_bo_perm _ z2).mem_iff.mp hy)
        rcases q3 with q3 | q3
        · rw [q3, cp_tI (by omega)]; omega
        · rw [q3, cp_tI (by omega)]; omega
      have hlB : (ct_bo (ct_ev N p2)).length ≤ 32768 := by
        have h1 := ct_bl_sz _ z2
        have h2 := (ct_bo_perm _ z2).length_eq
        omega
      refine cp_173 (d := d + 163) (cp_r1 ?_)
      rw [if_pos rfl]
      refine ⟨fun h => absurd h (by decide), fun _ => cp_shz (cp_shz (cp_shz ?_))⟩
      refine cp_210l 26 0 _ rfl (fun v hv => absurd hv (by omega)) (fun S1 g1 c1 => ?_)
      refine cx_210_35 _ _ _ ⟨fun h => absurd h (by decide), fun _ => ⟨Or.inl rfl, ?_⟩⟩
      rintro _ rfl
      rintro _ rfl
      rintro _ rfl
      rintro _ rfl
      have c4 : cf_W cW_mr S (cm_wI (cm_wI (cm_wI (cm_wI S1 83 9 0) 83 17 4800) 83 19 0) 83 20 0) := cf_tr (cf_wI (decide_eq_true (by omega))) (cf_tr (cf_mono c1 (fun b j h => decide_eq_true (by have h := of_decide_eq_true h; omega))) (cf_tr (cf_wI (decide_eq_true (by omega))) (cf_tr (cf_wI (decide_eq_true (by omega))) (cf_tr (cf_wI (decide_eq_true (by omega))) (cf_wI (decide_eq_true (by omega)))))))
      have f9 : (cm_wI (cm_wI (cm_wI (cm_wI S1 83 9 0) 83 17 4800) 83 19 0) 83 20 0).1 83 9 = 0 := by
        rw [cp_wI1, if_neg (by omega), cp_wI1, if_neg (by omega), cp_wI1, if_neg (by omega), cp_wI1, if_pos ⟨rfl, rfl⟩]
      have s4 : cl_rs N (ct_bo (ct_ev N p2)) (cm_wI (cm_wI (cm_wI (cm_wI S1 83 9 0) 83 17 4800) 83 19 0) 83 20 0) (fun _ => -1) 4800 ([] : List Int32).length := by
        refine ⟨cl_n_f c4 (decide_eq_false (by omega)) (fun r j q1 q2 => decide_eq_false (by omega)) hn, ⟨?_, ?_, trivial⟩, ?_, fun v hv => ?_, Or.inl f9⟩
        · rw [cp_wI1, if_neg (by omega), cp_wI1, if_pos ⟨rfl, rfl⟩]; rfl
        · rw [cp_wI1, if_neg (by omega), cp_wI1, if_neg (by omega), cp_wI1, if_pos ⟨rfl, rfl⟩]; rfl
        · rw [cp_wI1, if_pos ⟨rfl, rfl⟩]; rfl
        · rw [cp_wI1, if_neg (by omega), cp_wI1, if_neg (by omega), cp_wI1, if_neg (by omega), cp_wI1, if_neg (by omega), g1 v hv]
          exact (ct_fr_m1 hbm).symm
      generalize cm_wI (cm_wI (cm_wI (cm_wI S1 83 9 0) 83 17 4800) 83 19 0) 83 20 0 = S4 at c4 f9 s4 ⊢
      have hrd := cp_196 (L := L) (xs := xs) hN z4 hbm hlB N.length p2 (fun _ => -1) 0 (ct_is_px hp) (Nat.le_refl _)
      refine hrd z2 (d + 164) S4 4800 [] [] _ (by show 2 * ct_sz (ct_ev N p2) + 3 ≤ _; omega) (by show _ = [] ++ (ct_bo (ct_ev N p2) ++ []); rw [List.append_nil]; rfl) (by show 4800 + ct_sz (ct_ev N p2) ≤ _; omega) s4 (fun S5 q t5 s5 f5 c5 => cp_r1 ?_)
      have f5 : cl_fg (ct_fx (ct_ev N p2)) (S4.1 83 9) (S5.1 83 9) := f5
      have t5 : cl_t S5 (ct_map (ct_fr 0 (ct_bo (ct_ev N p2))) (ct_ev N p2)) q (List.range' 4800 (ct_sz (ct_ev N p2))) := t5
      have c5 : cf_W cW_mr S S5 := cf_tr c4 (cf_mono c5 (fun b j h => decide_eq_true (by have h := of_decide_eq_true h; omega)))
      rintro _ rfl
      by_cases hf : ct_fx (ct_ev N p2)
      · rw [f5.1 hf, f9]
        refine ⟨fun _ => ?_, fun h => absurd rfl h⟩
        refine cp_173 (d := d + 163) (cp_r1 ?_)
        rw [if_pos rfl]
        refine ⟨fun h => absurd h (by decide), fun _ => ⟨cp_in hi8 (by decide), ?_⟩⟩
        rw [show (0 : Int32) + (150 : Int32) * Int32.ofNat i = Int32.ofNat (150 * i) from by rw [show (150 : Int32) = Int32.ofNat 150 from rfl, cp_ml, Int32.zero_add], show (1200 : Int32) + (150 : Int32) * Int32.ofNat i = Int32.ofNat (1200 + 150 * i) from by rw [show (150 : Int32) = Int32.ofNat 150 from rfl, cp_ml, show (1200 : Int32) = Int32.ofNat 1200 from rfl, cp_ad], show (8 : Int32) + Int32.ofNat i = Int32.ofNat (8 + i) from cp_ad (a := 8), cp_cl (show i < 2147483648 by omega), cp_cl (show 8 + i < 2147483648 by omega)]
        rintro _ rfl
        have hco := ct_ev_co hN hp hf
        obtain ⟨y1, y2, y3⟩ := ct_can_co hco
        have csz : ct_sz (ct_can (ct_ev N p2)) = ct_sz (ct_ev N p2) := ct_can_sz
        have hcan : ct_map (ct_fr 0 (ct_bo (ct_ev N p2))) (ct_ev N p2) = ct_can (ct_ev N p2) := by unfold ct_can; rw [ct_rp_fr]
        rw [hcan] at t5
        have cw : cf_W (fun b j => decide (b = 83 ∧ j = 75 ∨ b = 102 ∧ j = i)) S5 (cm_wI (cm_wI S5 83 75 0) 102 i (vp_nar .boolean (1 : Int32))) := cf_tr (cf_wI (decide_eq_true (by omega))) (cf_wI (decide_eq_true (by omega)))
        have c14 : cf_W (fun b j => decide (b = 91 ∨ 92 ≤ b ∧ b ≤ 98 ∧ 4800 ≤ j ∨ b = 83 ∧ (j = 9 ∨ j = 17 ∨ j = 19 ∨ j = 20 ∨ j = 75) ∨ b = 102 ∧ j = i)) S (cm_wI (cm_wI S5 83 75 0) 102 i (vp_nar .boolean (1 : Int32))) := cf_tr (cf_mono c5 (fun b j h => decide_eq_true (by have h := of_decide_eq_true h; omega))) (cf_mono cw (fun b j h => decide_eq_true (by have h := of_decide_eq_true h; omega)))
        have t14 := cl_t_cf cw _ y1.1 _ _ (fun b x q1 q2 _ => decide_eq_false (by omega)) t5
        have r102 : (cm_wI (cm_wI S5 83 75 0) 102 i (vp_nar .boolean (1 : Int32))).1 102 i = 1 := by rw [cp_wI1, if_pos ⟨rfl, rfl⟩]; rfl
        have r75 : (cm_wI (cm_wI S5 83 75 0) 102 i (vp_nar .boolean (1 : Int32))).1 83 75 = 0 := by rw [cp_wI1, if_neg (by omega), cp_wI1, if_pos ⟨rfl, rfl⟩]
        generalize cm_wI (cm_wI S5 83 75 0) 102 i (vp_nar .boolean (1 : Int32)) = S14 at c14 t14 r102 r75 ⊢
        refine cs_keep hi8 y1 y2 (by omega) (by rw [csz]; exact t14) hT hU (cl_d_fr hT c14 (fun j hj => decide_eq_false (by omega)) (fun b x q1 q2 q3 q4 => decide_eq_false (by omega)) h1) (cl_d_fr hU c14 (fun j hj => decide_eq_false (by omega)) (fun b x q1 q2 q3 q4 => decide_eq_false (by omega)) h2) (cl_cs_f c14 (decide_eq_false (by omega)) (fun j => decide_eq_false (by omega)) hcs) hc (fun S9 d1 d2 cs9 c9 => ?_)
        rw [csz]
        try dsimp only [cm_sh]
        refine k0 i S9 hi8 rfl hp hf d1 d2 (cl_i_up (S := S) (fun hc => y1.2.1 hc) ?_ (fun j hj hji => ?_) h3) ?_ cs9 ?_
        · rw [(c9 102 i (decide_eq_false (by omega))).1]; exact r102
        · rw [(c9 102 j (decide_eq_false (by omega))).1, (c14 102 j (decide_eq_false (by omega))).1]
        · rw [(c9 83 75 (decide_eq_false (by omega))).1]; exact r75
        · exact cf_tr (cf_mono c14 (fun b j h => decide_eq_true (by have h := of_decide_eq_true h; omega))) (cf_mono c9 (fun b j h => decide_eq_true (by have h := of_decide_eq_true h; omega)))
      · rw [f5.2 hf]
        refine ⟨fun h => absurd h (by decide), fun _ => ?_⟩
        refine cp_173 (d := d + 163) (cp_r1 ?_)
        rw [if_neg (by decide)]
        refine ⟨fun _ => ?_, fun h => absurd rfl h⟩
        exact k3 hp h8 hf _ (by rw [cp_wI1, if_pos ⟨rfl, rfl⟩]) (cf_tr c5 (cf_wI (decide_eq_true (by omega))))
    · refine cp_173 (d := d + 163) (cp_r1 ?_)
      rw [if_neg (by decide)]
      exact ⟨fun _ => k2 hp h8, fun h => absurd rfl h⟩
  · refine cp_173 (d := d + 163) (cp_r1 ?_)
    rw [if_neg (by decide)]
    exact ⟨fun _ => k1 hp, fun h => absurd rfl h⟩
end CP63
