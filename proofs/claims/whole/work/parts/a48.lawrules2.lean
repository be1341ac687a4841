/-! ## a48 the rules of the law are good; the runs where core is printed -/
theorem dw_me_c7 {WA WS : Nat → Nat → Bool} {A A2 S S2 : cm_S} {V : Nat → ct_T} {G : dm_Gs} {ne : Nat} (hA : cf_W WA A A2) (hS : cf_W WS S S2) (oA : ∀ b j, 57 ≤ b ∧ b ≤ 79 → WA b j = false) (oS : ∀ b j, (b = 83 ∧ 40 ≤ j ∧ j ≤ 71 ∧ ¬ j = 70 ∨ 92 ≤ b ∧ b ≤ 98 ∧ 2400 ≤ j ∧ j < 3600) → WS b j = false) (h : dm_me A S V G ne) : dm_me A2 S2 V G ne := by
  obtain ⟨h1, g, q, t, t2, h2, h3, h4, h5, h6, h7⟩ := h
  refine ⟨(hA _ _ (oA _ _ (by omega))).1.trans h1, g, q, t, t2, (hA _ _ (oA _ _ (by omega))).1.trans h2, dm_n_cf hA (fun b j q1 q2 => oA _ _ (by omega)) hS (fun b x q1 q2 q3 q4 => oS _ _ (by omega)) h3, by rw [(hA 57 11 (oA _ _ (by omega))).1]; exact h4, (hS _ _ (oS _ _ (by omega))).1.trans h5, ?_, (hS _ _ (oS _ _ (by omega))).1.trans h7⟩
  rw [(hA 57 11 (oA _ _ (by omega))).1, (hS 83 64 (oS _ _ (by omega))).1]
  exact h6
theorem dw_fin_c7 {WA WS : Nat → Nat → Bool} {A A2 S S2 : cm_S} {V : Nat → ct_T} {st lim wc sh dd o : Nat} (hA : cf_W WA A A2) (hS : cf_W WS S S2) (oA : ∀ b j, 57 ≤ b ∧ b ≤ 79 → WA b j = false) (oS : ∀ b j, (b = 83 ∧ 40 ≤ j ∧ j ≤ 71 ∧ ¬ j = 70 ∨ 92 ≤ b ∧ b ≤ 98 ∧ 2400 ≤ j ∧ j < 3600 ∨ 114 ≤ b ∧ b ≤ 129) → WS b j = false) (h : dw_fin A S V st lim wc sh dd o) : dw_fin A2 S2 V st lim wc sh dd o := by
  obtain ⟨G, nc, ne, nf, nv, h1, h2, h3, h4, h5, h6, h7, h8⟩ := h
  have rA : dm_rA A S dd nf sh nc → dm_rA A2 S2 dd nf sh nc := fun hr => dm_rA_cf hA hS (fun b j hb => oA _ _ (by have := hr.2.1; omega)) (fun b j hb => oS _ _ (by omega)) hr
  exact ⟨G, nc, ne, nf, nv, dm_M_cf hA hS (fun b j hb => oA _ _ (by omega)) (fun b j hb => oS _ _ (by omega)) (oA _ _ (by omega)) (oA _ _ (by omega)) (oA _ _ (by omega)) (oS _ _ (by omega)) (oS _ _ (by omega)) (oS _ _ (by omega)) (oS _ _ (by omega)) h1, dm_H_cf hA hS (fun b j hb => oA _ _ (by omega)) (fun b j hb => oS _ _ (by omega)) (Nat.le_refl _) h2, dw_ct_cf (fun i _ => (hA 73 i (oA _ _ (by omega))).1) h3, h4, (hA _ _ (oA _ _ (by omega))).1.trans h5, (hS _ _ (oS _ _ (by omega))).1.trans h6, fun hx => ⟨rA (h7 hx).1, dw_me_c7 hA hS oA (fun b j hb => oS _ _ (by omega)) (h7 hx).2.1, (h7 hx).2.2⟩, fun hx => ⟨rA (h8 hx).1, (h8 hx).2⟩⟩
theorem cr_mr_c7 {W : Nat → Nat → Bool} {S S2 : cm_S} (hc : cf_W W S S2) (h : ∀ b j, (57 ≤ b ∧ b ≤ 79 ∨ b = 83 ∧ 40 ≤ j ∧ j ≤ 71 ∧ ¬ j = 70 ∨ 92 ≤ b ∧ b ≤ 98 ∧ 2400 ≤ j ∧ j < 3600 ∨ 114 ≤ b ∧ b ≤ 129) → W b j = false) (hm : cr_mr S) : cr_mr S2 := by
  rcases hm with ⟨h1, h2, h3, h4, h5⟩ | ⟨h1, V, st, lim, wc, sh, dd, o, h2, h3⟩
  · refine Or.inl ⟨(hc _ _ (h _ _ (by omega))).1.trans h1, (hc _ _ (h _ _ (by omega))).1.trans h2, (hc _ _ (h _ _ (by omega))).1.trans h3, (hc _ _ (h _ _ (by omega))).1.trans h4, fun j hj => (hc _ _ (h _ _ (by omega))).1.trans (h5 j hj)⟩
  · exact Or.inr ⟨(hc _ _ (h _ _ (by omega))).1.trans h1, V, st, lim, wc, sh, dd, o, dw_fin_c7 hc hc (fun b j hb => h _ _ (by omega)) (fun b j hb => h _ _ (by omega)) h2, h3⟩
section CPa48
variable {L : Nat} {xs : Nat → Int32} {d : Nat} {N : List ct_E} {T U : Nat → ct_T} {R : List (Int32 × Int32 × Int32 × Int32)} {c n : Nat} {S : cm_S} {K : cm_K} {o5 o6 : Option Value}
theorem cr_ruk (hb : cr_b N T U R c S) (hRk : ∀ q, q ∈ R → ct_rok q) (hL : n + 5 ≤ L) (hL2 : L < 2147483648) (k : ∀ S2 R2 e q5 q6, e ≤ 1 → cr_b N T U R2 c S2 → (∀ q, q ∈ R2 → ct_rok q) → cf_W (fun b j => decide (b = 37 ∧ j = 6 ∨ b = 56 ∨ b = 132 ∨ b = 83 ∧ (j = 26 ∨ j = 75) ∨ 104 ≤ b ∧ b ≤ 107)) S S2 → cm_At (am_XX L xs) (d + 5) 300 1907 [some (.ref 1000000), some (.ref 0), some (.ref 83), some (.ref 132), some (.int (Int32.ofNat n)), some (.int q5), some (.int q6), none] [] S2 (cm_sh K e)) :
    cm_At (am_XX L xs) (d + 5) 300 1108 [some (.ref 1000000), some (.ref 0), some (.ref 83), some (.ref 132), some (.int (Int32.ofNat n)), o5, o6, none] [] S K := by
  obtain ⟨g1, g2, g3, g4, g5, g6, g7, g8, g9, g10, g11, g12, g13, g14⟩ := id hb
  refine cx_300_1108 _ _ _ ?_
  refine ⟨cr_in (j := 1) (by omega) hL2, ?_⟩
  rintro _ rfl
  refine ⟨cr_in (j := 2) (by omega) hL2, ?_⟩
  rintro _ rfl
  refine ⟨cr_in (j := 3) (by omega) hL2, ?_⟩
  rintro _ rfl
  refine ⟨cr_in (j := 4) (by omega) hL2, ?_⟩
  rintro _ rfl
  refine cq_rule (d := d) g12 (fun S2 hok hlt r2 v2 f2 => cp_r1 ?_) (fun hok => cp_r1 ?_) (fun hok hlt => cp_r1 ?_)
  · refine ⟨cr_in (j := 1) (by omega) hL2, ?_⟩
    rintro _ rfl
    refine ⟨cr_in (j := 2) (by omega) hL2, ?_⟩
    rintro _ rfl
    refine ⟨cr_in (j := 3) (by omega) hL2, ?_⟩
    rintro _ rfl
    refine ⟨cr_in (j := 4) (by omega) hL2, ?_⟩
    rintro _ rfl
    refine cs_rule (d := d + 1) (cl_r_cf f2 (decide_eq_false (by omega)) (fun b j q1 q2 => decide_eq_false (by omega)) g13) (fun S3 _ _ r3 r75 f3 => cp_r1 ?_) (fun hc => absurd hok hc) (fun _ hc => absurd hlt hc)
    refine cp_172 (d := d + 3) (cp_r1 ?_)
    rw [r75]
    refine ⟨fun _ => ⟨fun h0 => ⟨cp_in (i := 0) (by decide) (by decide), ?_⟩, fun h0 => absurd rfl h0⟩, fun h => absurd rfl h⟩
    rintro _ rfl
    have hv : S3.2 132 0 = (Int32.ofNat (R.length + 1)).toInt64 := by rw [(f3 132 0 (decide_eq_false (by omega))).2]; exact v2
    have hf : cf_W (fun b j => decide (b = 37 ∧ j = 6 ∨ b = 56 ∨ b = 132 ∨ b = 83 ∧ (j = 26 ∨ j = 75) ∨ 104 ≤ b ∧ b ≤ 107)) S S3 := cf_tr (cf_mono f2 (fun b j h => decide_eq_true (by have h := of_decide_eq_true h; omega))) (cf_mono f3 (fun b j h => decide_eq_true (by have h := of_decide_eq_true h; omega)))
    have hb3 := (⟨g1, ck_n_cf hf (fun b j q1 q2 => decide_eq_false (by omega)) g2, cl_n_f hf (decide_eq_false (by omega)) (fun b j q1 q2 => decide_eq_false (by omega)) g3, ck_d_fr hf (fun b j q1 q2 => decide_eq_false (by omega)) g4, ck_d_fr hf (fun b j q1 q2 => decide_eq_false (by omega)) g5, cl_d_fr g9 hf (fun j hj => decide_eq_false (by omega)) (fun b x q1 q2 q3 q4 => decide_eq_false (by omega)) g6, cl_d_fr g10 hf (fun j hj => decide_eq_false (by omega)) (fun b x q1 q2 q3 q4 => decide_eq_false (by omega)) g7, cl_i_cf hf (fun j => decide_eq_false (by omega)) g8, g9, g10, g11, ck_r_cf f3 (decide_eq_false (by omega)) (fun j => decide_eq_false (by omega)) r2, r3, cl_cs_f hf (decide_eq_false (by omega)) (fun j => decide_eq_false (by omega)) g14⟩ : cr_b N T U _ c S3)
    refine ⟨fun _ => cx_300_1197 _ _ _ (cp_shz (cp_shz (k S3 _ 0 _ _ (by omega) hb3 (fun q hq => Or.elim (List.mem_append.mp hq) (fun h1 => hRk q h1) (fun h1 => by rw [List.mem_singleton.mp h1]; exact hok)) hf))), fun h => absurd ?_ h⟩
    show lg_cmp (S3.2 132 0) _ = 0
    rw [hv]
    unfold lg_cmp
    exact (if_neg (by simp)).trans (if_pos rfl)
  · refine ⟨cr_in (j := 1) (by omega) hL2, ?_⟩
    rintro _ rfl
    refine ⟨cr_in (j := 2) (by omega) hL2, ?_⟩
    rintro _ rfl
    refine ⟨cr_in (j := 3) (by omega) hL2, ?_⟩
    rintro _ rfl
    refine ⟨cr_in (j := 4) (by omega) hL2, ?_⟩
    rintro _ rfl
    refine cs_rule (d := d + 1) g13 (fun S3 hc _ _ _ _ => absurd hc hok) (fun _ => cp_r1 ?_) (fun hc _ => absurd hc hok)
    have r75 : (cm_wI S 83 75 1).1 83 75 = 1 := by rw [cp_wI1, if_pos ⟨rfl, rfl⟩]
    have f3w : cf_W (fun b j => decide (b = 37 ∧ j = 6 ∨ b = 56 ∨ b = 132 ∨ b = 83 ∧ (j = 26 ∨ j = 75) ∨ 104 ≤ b ∧ b ≤ 107)) S (cm_wI S 83 75 1) := cf_wI (decide_eq_true (by omega))
    refine cp_172 (d := d + 3) (cp_r1 ?_)
    rw [r75]
    exact ⟨fun _ => ⟨fun h0 => absurd h0 (by decide), fun _ => cx_300_1197 _ _ _ (cp_shz (cp_shz (k _ R 1 _ _ (Nat.le_refl _) (cr_b_fr (cf_wI (decide_eq_true (by omega))) hb) hRk f3w)))⟩, fun h => absurd rfl h⟩
  · refine ⟨cr_in (j := 1) (by omega) hL2, ?_⟩
    rintro _ rfl
    refine ⟨cr_in (j := 2) (by omega) hL2, ?_⟩
    rintro _ rfl
    refine ⟨cr_in (j := 3) (by omega) hL2, ?_⟩
    rintro _ rfl
    refine ⟨cr_in (j := 4) (by omega) hL2, ?_⟩
    rintro _ rfl
    refine cs_rule (d := d + 1) g13 (fun S3 _ hc _ _ _ => absurd hc hlt) (fun hc => absurd hok hc) (fun _ _ => cp_r1 ?_)
    have r75 : (cm_wI S 83 75 2).1 83 75 = 2 := by rw [cp_wI1, if_pos ⟨rfl, rfl⟩]
    have f3w : cf_W (fun b j => decide (b = 37 ∧ j = 6 ∨ b = 56 ∨ b = 132 ∨ b = 83 ∧ (j = 26 ∨ j = 75) ∨ 104 ≤ b ∧ b ≤ 107)) S (cm_wI S 83 75 2) := cf_wI (decide_eq_true (by omega))
    refine cp_172 (d := d + 3) (cp_r1 ?_)
    rw [r75]
    exact ⟨fun _ => ⟨fun h0 => absurd h0 (by decide), fun _ => cx_300_1197 _ _ _ (cp_shz (cp_shz (k _ R 1 _ _ (Nat.le_refl _) (cr_b_fr (cf_wI (decide_eq_true (by omega))) hb) hRk f3w)))⟩, fun h => absurd rfl h⟩
end CPa48
