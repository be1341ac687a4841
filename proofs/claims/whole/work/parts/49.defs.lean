/-! ## 49 the print of a whole core on the model's side; definitions on both sides -/
section CP49
variable {L : Nat} {xs : Nat → Int32} {d : Nat}
theorem cp_236 {B : List Int32} (hnd : B.Nodup) (hB0 : ∀ y, y ∈ B → 0 ≤ y.toInt ∧ y.toInt < 32768) (hlen : B.length < 100000) : ∀ u, ct_wf u → cl_prt L xs B u :=
  ct_ind (fun d S p fp P R G p0 K hB hnb hnw hl hG hcl hps hp k => by
    obtain ⟨rfl, _⟩ := hcl
    refine cx_236_0 _ ⟨fun _ => k S hp ?_ cf_rfl, fun h => absurd rfl h⟩
    show cl_ps S (P ++ []) B
    rw [List.append_nil]; exact hps) (fun e a b c hw iha ihb ihc d S p fp P R G p0 K hB hnb hnw hl hG hcl hps hp k => by
    obtain ⟨i, fa, fb, fc, rfl, h2, h3, h4, h5, h6, rfl⟩ := hcl
    have hm := cp_m1 (n := i) (by omega)
    have e1 : S.1 92 i = e.1 := by rw [← h3]
    have e2 : S.2 93 i = e.2.1 := by rw [← h3]
    have e3 : S.1 97 i = e.2.2.1 := by rw [← h3]
    rw [ct_fl_nd, List.map_cons] at k
    rw [ct_sz_nd, show d + (1 + (ct_sz a + (ct_sz b + ct_sz c))) + 2 = (d + (ct_sz a + (ct_sz b + ct_sz c)) + 2) + 1 by omega]
    refine cx_236_0 _ ⟨fun h => absurd h hm, fun _ => ⟨cp_in h2 (by decide), ?_⟩⟩
    rw [cp_cl (by omega)]
    rintro _ rfl
    rw [e1]
    refine cp_234 (cp_r0 ?_)
    have tl : ∀ (S2 : cm_S) (K2 : cm_K), S2.1 = S.1 → S2.2 93 = S.2 93 → S2.2 83 70 = ct_ps p0 (ct_rd (ct_fr 0 B) e) → (∀ b j, cW_pr b j = false → S2.2 b j = S.2 b j) → (∀ S3 v, K (.inl v) S3 0 → K2 (.inl v) S3 0) → cm_At (am_XX L xs) (d + (ct_sz a + (ct_sz b + ct_sz c)) + 3) 236 72 [some (.ref 83), some (.int (Int32.ofNat i)), some (.int e.1), none] [] S2 K2 := by
      intro S2 K2 q1 q2 q3 q4 hK
      have cf2 : cf_W cW_pr S S2 := fun b j hb => ⟨by rw [q1], q4 b j hb⟩
      obtain ⟨w1, w2, w3, w4, w5, w6, w7⟩ := ct_wf_nd hw
      refine cp_236c iha ihb ihc hw hnd hB0 hlen hB hnb hnw hl hG h2 (by rw [q1, q2]; exact h3) (by rw [q1]; exact cl_t_cf cf2 a w5 _ _ (fun b x g1 g2 _ => decide_eq_false (by omega)) h4) (by rw [q1]; exact cl_t_cf cf2 b w6 _ _ (fun b x g1 g2 _ => decide_eq_false (by omega)) h5) (by rw [q1]; exact cl_t_cf cf2 c w7 _ _ (fun b x g1 g2 _ => decide_eq_false (by omega)) h6) ⟨by rw [q1]; exact hps.1, fun x hx => by rw [q1]; exact hps.2 x hx⟩ q3 (fun S3 g1 g2 g3 => hK S3 _ (k S3 g1 g2 (cf_tr cf2 g3)))
    have wj : ∀ {S2 : cm_S} {y : Int64} b j, cW_pr b j = false → (cm_wJ S2 83 70 y).2 b j = S2.2 b j := fun b j hb => by
      rw [cp_wJ2, if_neg (fun hc => by
        have hb := of_decide_eq_false hb
        omega)]
    have n93 : ∀ {S2 : cm_S} {y : Int64}, (cm_wJ S2 83 70 y).2 93 = S2.2 93 := fun {S2 y} => by
      funext j
      rw [cp_wJ2, if_neg (by omega)]
    refine ⟨fun hk => ⟨cp_in h2 (by decide), ?_⟩, fun hk => ?_⟩
    · have hvP : e.2.2.1 ∈ P := by
        rw [ct_lx_nd, if_pos hk] at hl
        exact hG _ hl
      have hvB : e.2.2.1 ∈ B := by rw [hB]; exact List.mem_append_left _ hvP
      obtain ⟨z, hz, hz1, hz2⟩ := cp_of (hB0 _ hvB).1
      have hz3 := (hB0 _ hvB).2
      rintro _ rfl
      rw [cp_wJ1, e3]
      refine ⟨by rw [hz]; exact cp_in (by omega) (by decide), ?_⟩
      rintro _ rfl
      rw [hps.2 _ hvP]
      refine cp_234 (cp_r0 ?_)
      have go72 := tl (cm_wJ (cm_wJ S 83 70 (31 * S.2 83 70 + e.1.toInt64)) 83 70 (31 * (cm_wJ S 83 70 (31 * S.2 83 70 + e.1.toInt64)).2 83 70 + (Int32.ofNat (ct_ix e.2.2.1 B)).toInt64)) (cm_sh (cm_sh K 0) 0) rfl (n93.trans n93) (by
        rw [cp_wJ2, if_pos ⟨rfl, rfl⟩, cp_wJ2, if_pos ⟨rfl, rfl⟩, hp]
        unfold ct_ps ct_rd ct_fr
        rw [if_pos hk]
        simp only [if_pos hvB, Nat.zero_add]) (fun b j hb => (wj b j hb).trans (wj b j hb)) (fun S3 v h => h)
      exact cx_236_40 _ _ ⟨fun h => absurd h (by rw [hk]; decide), fun _ => ⟨fun h => absurd h (by rw [hk]; decide), fun _ => ⟨fun h => absurd h (by rw [hk]; decide), fun _ => ⟨fun h => absurd h (by rw [hk]; decide), fun _ => go72⟩⟩⟩⟩
    · have go62 : (e.1 = 1 ∨ e.1 = 3 ∨ e.1 = 9 ∨ e.1 = 14) → cm_At (am_XX L xs) (d + (ct_sz a + (ct_sz b + ct_sz c)) + 3) 236 62 [some (.ref 83), some (.int (Int32.ofNat i)), some (.int e.1), none] [] (cm_wJ S 83 70 (31 * S.2 83 70 + e.1.toInt64)) (cm_sh K 0) := by
        intro hq
        refine cx_236_62 _ _ ⟨cp_in h2 (by decide), ?_⟩
        rw [cp_cl (by omega)]
        rintro _ rfl
        rw [n93, e2]
        refine cp_234 (cp_r0 ?_)
        refine tl _ _ rfl (n93.trans n93) ?_ (fun b j hb => (wj b j hb).trans (wj b j hb)) (fun S3 v h => h)
        rw [cp_wJ2, if_pos ⟨rfl, rfl⟩, cp_wJ2, if_pos ⟨rfl, rfl⟩, hp]
        unfold ct_ps ct_rd
        rw [if_neg hk, if_pos hq]
      refine cx_236_40 _ _ ⟨fun h => go62 (Or.inl h), fun q1 => ⟨fun h => go62 (Or.inr (Or.inl h)), fun q3 => ⟨fun h => go62 (Or.inr (Or.inr (Or.inl h))), fun q9 => ⟨fun h => go62 (Or.inr (Or.inr (Or.inr h))), fun q14 => ?_⟩⟩⟩⟩
      refine tl _ _ rfl n93 ?_ wj (fun S3 v h => h)
      rw [cp_wJ2, if_pos ⟨rfl, rfl⟩, hp]
      unfold ct_ps ct_rd
      rw [if_neg hk, if_neg (fun hc => by rcases hc with hc | hc | hc | hc; exact q1 hc; exact q3 hc; exact q9 hc; exact q14 hc)])
/-- a core printed by the model -/
theorem cp_236w {S : cm_S} {K : cm_K} {t : ct_T} {p : Int32} {fp : List Nat} (hc : ct_co t) (hcl : cl_t S t p fp) (hv : S.1 83 20 = 0) (hp : S.2 83 70 = 9) (k : ∀ S2, S2.2 83 70 = ct_pr 9 (ct_fl (ct_can t)) → cf_W cW_pr S S2 → K (.inl none) S2 0) :
    cm_At (am_XX L xs) (d + ct_sz t + 2) 236 0 [some (.ref 83), some (.int p), none, none] [] S K := by
  obtain ⟨h1, h2, h3, h4, h5, h6, h7, h8⟩ := id hc
  refine cp_236 (B := ct_bo t) (ct_co_bo hc) (fun y hy => ct_bl_mem h4 h3 y ((ct_bo_perm t h1).mem_iff.mp hy)) (by have := ct_co_len hc; omega) t h1 d S p fp [] [] _ 9 K (by rw [List.append_nil]; rfl) h4 h3 h6 (fun x hx => hx.elim) hcl ⟨hv, fun x hx => (by cases hx)⟩ hp (fun S2 g1 g2 g3 => k S2 ?_ g3)
  rw [g1]
  unfold ct_can
  rw [ct_map_fl, ct_rp_fr]
end CP49
/-- definitions: in the class's rows, among the model's nodes -/
def ck_d (S : cm_S) (a : Nat) (T : Nat → ct_T) : Prop := ∀ i, i < 8 → (T i = .leaf → S.1 (a + 5) (150 * i) = 0 ∧ ¬ S.1 (a + 1) (150 * i) = 4) ∧ (¬ T i = .leaf → ck_t S a (150 * i) (T i))
def cl_d (S : cm_S) (sl pl : Nat) (T : Nat → ct_T) : Prop := ∀ i, i < 8 → ¬ T i = .leaf → S.1 103 (sl + i) = Int32.ofNat (pl + 150 * i) ∧ cl_t S (ct_pre (T i)) (Int32.ofNat (pl + 150 * i)) (List.range' (pl + 150 * i) (ct_sz (T i)))
def cl_i (S : cm_S) (T : Nat → ct_T) : Prop := ∀ i, i < 8 → (T i = .leaf → S.1 102 i = 0) ∧ (¬ T i = .leaf → S.1 102 i = 1)
def ct_ds (T : Nat → ct_T) : Prop := ∀ i, i < 8 → ¬ T i = .leaf → ct_co (T i) ∧ ct_can (T i) = T i
def ct_df (T : Nat → ct_T) (p : Int32) : Prop := 0 ≤ p.toInt ∧ p.toInt < 8 ∧ ¬ T p.toNatClampNeg = .leaf
theorem ct_df_of {T : Nat → ct_T} {p : Int32} (h : ct_df T p) : ∃ i, i < 8 ∧ p = Int32.ofNat i ∧ ¬ T i = .leaf := by
  obtain ⟨i, rfl, h1, h2⟩ := cp_of h.1
  refine ⟨i, by have := h.2.1; omega, rfl, ?_⟩
  have := h.2.2
  rw [cp_cl h2] at this
  exact this
section CP49b
variable {L : Nat} {xs : Nat → Int32} {d : Nat} {S : cm_S} {K : cm_K} {T U : Nat → ct_T} {p : Int32}
theorem cp_165 (k : K (.inl (some (.int (p * 150)))) S 0) : cm_At (am_XX L xs) (d + 1) 165 0 [some (.int p)] [] S K := cx_165_0 p k
theorem cp_rt {i : Nat} : Int32.ofNat i * 150 = Int32.ofNat (150 * i) := by rw [Nat.mul_comm]; exact cp_ml (b := 150)
theorem cp_164 (hd : ck_d S 21 T) (hw : ∀ i, i < 8 → ct_wf (T i)) (k1 : ct_df T p → K (.inl (some (.int 1))) S 0) (k2 : ¬ ct_df T p → K (.inl (some (.int 0))) S 0) : cm_At (am_XX L xs) (d + 2) 164 0 [some (.ref 0), some (.int p)] [] S K := by
  have hc : (21 : Nat) ∈ cm_codes := by decide
  refine cx_164_0 p ⟨fun h => ⟨Or.inl rfl, k2 (fun hc => ?_)⟩, fun h => ⟨fun h2 => ?_, fun h2 => ⟨Or.inl rfl, k2 (fun hc => ?_)⟩⟩⟩
  · rw [cp_lt0] at h; have := hc.1; omega
  · rw [cp_lt0] at h
    obtain ⟨i, rfl, h3, h4⟩ := cp_of (p := p) (by omega)
    rw [show (8 : Int32) = Int32.ofNat 8 from rfl, cp_lt h4 (by omega)] at h2
    refine cp_165 (cp_r1 ?_)
    rw [cp_rt]
    refine cp_12 hc (cp_r1 ?_)
    have hcap : cm_cap 21 = 1200 := rfl
    rw [cp_g_at (by rw [hcap]; omega) (by decide +kernel)]
    by_cases ht : T i = .leaf
    · rw [((hd i h2).1 ht).1]
      refine ⟨fun h => absurd h (by decide), fun _ => ⟨Or.inl rfl, k2 (fun hc => ?_)⟩⟩
      have := hc.2.2
      rw [cp_cl h4] at this
      exact this ht
    · have hk := (hd i h2).2 ht
      have h5 := cp_sz hc hk (hw i h2) ht
      rw [cp_g_at (by rw [hcap]; omega) (by decide +kernel)] at h5
      rw [h5]
      have h6 := ct_sz_ne (hw i h2) ht
      have h7 := hk.2.2
      rw [hcap] at h7
      refine ⟨fun _ => ⟨Or.inr rfl, k1 ⟨by rw [cp_tI h4]; omega, by rw [cp_tI h4]; omega, by rw [cp_cl h4]; exact ht⟩⟩, fun h => absurd ?_ h⟩
      rw [show (0 : Int32) = Int32.ofNat 0 from rfl, cp_lt (by omega) (by omega)]
      exact h6
  · rw [show (8 : Int32) = Int32.ofNat 8 from rfl, cp_ltn (by omega)] at h2
    have := hc.2.1; omega
theorem cp_158 (hd : ck_d S 21 T) (hw : ∀ i, i < 8 → ct_wf (T i)) (k1 : ct_df T p → K (.inl none) S 0) (k2 : ¬ ct_df T p → K (.inr 0) S 1) : cm_At (am_XX L xs) (d + 3) 158 0 [some (.ref 0), some (.int p)] [] S K :=
  cx_158_0 p (cp_164 hd hw (fun h => cp_r1 ⟨fun h => absurd h (by decide), fun _ => k1 h⟩) (fun h => cp_r1 ⟨fun _ => k2 h, fun h => absurd rfl h⟩))
theorem cp_178 (hd : cl_i S T) (k1 : ct_df T p → K (.inl (some (.int 1))) S 0) (k2 : ¬ ct_df T p → K (.inl (some (.int 0))) S 0) : cm_At (am_XX L xs) (d + 3) 178 0 [some (.ref 83), some (.int p)] [] S K := by
  refine cx_178_0 p ?_
  refine cp_176 (fun h => cp_r1 ⟨fun h => absurd h (by decide), fun _ => ?_⟩) (fun h => cp_r1 ⟨fun _ => ⟨Or.inl rfl, k2 (fun hc => h ⟨hc.1, hc.2.1⟩)⟩, fun h => absurd rfl h⟩)
  obtain ⟨i, rfl, h3, h4⟩ := cp_of h.1
  have h5 := h.2
  rw [cp_tI h4] at h5
  refine ⟨cp_in (by omega) (by decide), ?_⟩
  rw [cp_cl h4]
  rintro _ rfl
  by_cases ht : T i = .leaf
  · rw [(hd i (by omega)).1 ht]
    refine ⟨fun _ => ⟨Or.inl rfl, k2 (fun hc => ?_)⟩, fun h => absurd rfl h⟩
    have := hc.2.2
    rw [cp_cl h4] at this
    exact this ht
  · rw [(hd i (by omega)).2 ht]
    exact ⟨fun h => absurd h (by decide), fun _ => ⟨Or.inr rfl, k1 ⟨h.1, h.2, by rw [cp_cl h4]; exact ht⟩⟩⟩
end CP49b
