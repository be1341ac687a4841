/-! ## 32 the twelve makers: class (through the law's wrappers) and model (printed by wip/whole/gen32.py) -/
theorem cq_bad {S : cm_S} {K : cm_K} {N : List ct_E} {R : Nat × List ct_E} {b : Nat} (hR : R = (b, N)) (hb : 0 < b) (hn : ck_n S N) (k : ∀ S2 c, ck_n S2 R.2 → cf_W cW_n S S2 → (R.1 = 0 → S2.2 132 0 = (Int32.ofNat N.length).toInt64) → c ≤ 1 → K (.inl (some (.int (Int32.ofNat R.1)))) S2 c) : K (.inl (some (.int (Int32.ofNat b)))) S 1 := by
  subst hR
  exact k S 1 hn cf_rfl (fun h => absurd h (by show ¬ b = 0; omega)) (Nat.le_refl _)
theorem cq_ok {S S1 : cm_S} {K : cm_K} {N : List ct_E} {R : Nat × List ct_E} (h1 : R.1 = 0) (hn : ck_n S1 R.2) (hf : cf_W cW_n S S1) (k : ∀ S2 c, ck_n S2 R.2 → cf_W cW_n S S2 → (R.1 = 0 → S2.2 132 0 = (Int32.ofNat N.length).toInt64) → c ≤ 1 → K (.inl (some (.int (Int32.ofNat R.1)))) S2 c) : am_in (0 : Int32) 1 ∧ ∀ S5, S5 = cm_wJ S1 132 (0 : Int32).toNatClampNeg (Int32.ofNat N.length).toInt64 → K (.inl (some (.int (0 : Int32)))) S5 0 := by
  refine ⟨cp_in (i := 0) (by decide) (by decide), ?_⟩
  rintro _ rfl
  have k2 := k (cm_wJ S1 132 0 (Int32.ofNat N.length).toInt64) 0 ⟨hn.1, hn.2.1, fun i e he => by
    have h := hn.2.2 i e he
    refine ⟨h.1, ?_, h.2.2⟩
    rw [cp_wJ2, if_neg (by omega)]
    exact h.2.1⟩ (cf_tr hf (cf_wJ rfl)) (fun _ => by rw [cp_wJ2, if_pos ⟨rfl, rfl⟩]) (Nat.zero_le _)
  rw [h1] at k2
  exact k2
theorem cq_badm {S : cm_S} {K : cm_K} {N : List ct_E} {R : Nat × List ct_E} {b : Nat} {r : Int32} (hR : R = (b, N)) (hb : 0 < b) (hn : cl_n S N) (k : ∀ S2 r, cl_n S2 R.2 → S2.1 83 75 = Int32.ofNat R.1 → (R.1 = 0 → r = Int32.ofNat N.length) → cf_W cW_m S S2 → K (.inl (some (.int r))) S2 0) : K (.inl (some (.int r))) (cm_wI S 83 75 (Int32.ofNat b)) 0 := by
  subst hR
  refine k _ _ ⟨hn.1, ?_, fun i e he => ?_⟩ ?_ (fun h => absurd h (by show ¬ b = 0; omega)) (cf_wI rfl)
  · rw [cp_wI1, if_neg (by omega)]; exact hn.2.1
  · have h := hn.2.2 i e he
    simp only [cp_wI1, cp_wI2]
    repeat rw [if_neg (by omega)]
    exact h
  · rw [cp_wI1, if_pos ⟨rfl, rfl⟩]
theorem ct_p1 {N : List ct_E} : ct_p N (-1) := Or.inl rfl
theorem ct_p2 {N : List ct_E} {p : Int32} (h : ct_is N p) : ct_p N p := Or.inr h
theorem ct_mkb {N : List ct_E} {bad full : Nat} {k : Int32} {n : Int64} {v w f s t : Int32} (h : 0 < bad) : ct_mk N bad full k n v w f s t = (bad, N) := by unfold ct_mk; rw [if_neg (by omega)]
/-- the name that a MATCH is made of -/
theorem ct_nm12 {p : Int32} : p = ct_nm 12 (p / 26) (p - p / 26 * 26) := by
  unfold ct_nm
  rw [if_pos rfl]
  have h : (26 : Int32) * (p / 26) = p / 26 * 26 := Int32.mul_comm _ _
  rw [h, Int32.add_comm, Int32.sub_add_cancel]
theorem ct_nmv {k v w : Int32} (h : 0 ≤ v.toInt ∧ v.toInt < 26) (hk : (if k = 12 then true else false) = false) : v = ct_nm k v w := by
  unfold ct_nm
  rw [if_neg (fun hc => by rw [if_pos hc] at hk; cases hk), if_neg (fun hc => by rw [hc] at h; exact absurd h.1 (by decide))]
theorem cp_161k {L : Nat} {xs : Nat → Int32} {d : Nat} {S : cm_S} {K : cm_K} {p q : Int32} {b : Int} (h0 : q.toInt = b) (k1 : 0 ≤ p.toInt ∧ p.toInt < b → K (.inl none) S 0) (k2 : ¬ (0 ≤ p.toInt ∧ p.toInt < b) → K (.inr 1) S 1) : cm_At (am_XX L xs) (d + 1) 161 0 [some (.int p), some (.int q)] [] S K := by
  subst h0
  exact cp_161 k1 k2
theorem cp_174k {L : Nat} {xs : Nat → Int32} {d : Nat} {S : cm_S} {K : cm_K} {p q : Int32} {b : Int} (h0 : b - 1 = q.toInt) (hz : (0 : Int32).toInt = 0) (k1 : 0 ≤ p.toInt ∧ p.toInt < b → K (.inl (some (.int 1))) S 0) (k2 : ¬ (0 ≤ p.toInt ∧ p.toInt < b) → K (.inl (some (.int 0))) S 0) : cm_At (am_XX L xs) (d + 1) 174 0 [some (.int p), some (.int 0), some (.int q)] [] S K := by
  refine cp_174 ?_
  by_cases h : 0 ≤ p.toInt ∧ p.toInt < b
  · rw [if_pos (by rw [hz]; omega)]; exact k1 h
  · rw [if_neg (by rw [hz]; omega)]; exact k2 h
section CP32
variable {L : Nat} {xs : Nat → Int32} {d : Nat} {S : cm_S} {K : cm_K} {N : List ct_E}
theorem cq_number (p0 : Int64) (hn : ck_n S N) (hs : ct_sm N) (k : ∀ S2 c, ck_n S2 (ct_mk N 0 1 1 p0 (-1) (-1) (-1) (-1) (-1)).2 → cf_W cW_n S S2 → ((ct_mk N 0 1 1 p0 (-1) (-1) (-1) (-1) (-1)).1 = 0 → S2.2 132 0 = (Int32.ofNat N.length).toInt64) → c ≤ 1 → K (.inl (some (.int (Int32.ofNat (ct_mk N 0 1 1 p0 (-1) (-1) (-1) (-1) (-1)).1)))) S2 c) : cm_At (am_XX L xs) (d + 6) 275 0 [some (.ref 0), some (.long p0), none, some (.ref 132), none] [] S K := by
  refine cx_275_0 p0 ?_
  refine cx_129_0 p0 ?_
  refine cp_163 (fl := 1) hn hs ct_p1 ct_p1 ct_p1 (fun e => cp_x1 ?_) (fun S2 e hS hf => cp_r1 ?_)
  · try dsimp only [cm_sh]
    refine cp_x1 ?_
    refine ⟨by decide, fun h => ?_, fun h => ?_, fun h => ?_⟩
    all_goals first
      | exact absurd h (by decide)
      | exact cq_bad (b := 1) e (by decide) hn k
  · try dsimp only [cm_sh]
    refine cp_r1 ?_
    exact cq_ok e hS hf k
theorem cs_number (p0 : Int64) (hn : cl_n S N) (hs : ct_sm N) (k : ∀ S2 r, cl_n S2 (ct_mk N 0 1 1 p0 (-1) (-1) (-1) (-1) (-1)).2 → S2.1 83 75 = Int32.ofNat (ct_mk N 0 1 1 p0 (-1) (-1) (-1) (-1) (-1)).1 → ((ct_mk N 0 1 1 p0 (-1) (-1) (-1) (-1) (-1)).1 = 0 → r = Int32.ofNat N.length) → cf_W cW_m S S2 → K (.inl (some (.int r))) S2 0) : cm_At (am_XX L xs) (d + 3) 181 0 [some (.ref 83), some (.long p0), none] [] S K := by
  refine cx_181_0 p0 ?_
  refine cp_180 (fl := 1) (kd := 1) (v := -1) (w := -1) hn hs ct_p1 ct_p1 ct_p1 rfl (by decide) rfl (fun S2 r a1 a2 a3 a4 => cp_r1 ?_)
  exact k S2 r a1 a2 a3 a4
theorem cq_variable (p0 : Int32) (hn : ck_n S N) (hs : ct_sm N) (k : ∀ S2 c, ck_n S2 (ct_mk N (if 0 ≤ p0.toInt ∧ p0.toInt < 26 then 0 else 1) 2 2 (0) p0 (-1) (-1) (-1) (-1)).2 → cf_W cW_n S S2 → ((ct_mk N (if 0 ≤ p0.toInt ∧ p0.toInt < 26 then 0 else 1) 2 2 (0) p0 (-1) (-1) (-1) (-1)).1 = 0 → S2.2 132 0 = (Int32.ofNat N.length).toInt64) → c ≤ 1 → K (.inl (some (.int (Int32.ofNat (ct_mk N (if 0 ≤ p0.toInt ∧ p0.toInt < 26 then 0 else 1) 2 2 (0) p0 (-1) (-1) (-1) (-1)).1)))) S2 c) : cm_At (am_XX L xs) (d + 6) 276 0 [some (.ref 0), some (.int p0), some (.ref 132), none] [] S K := by
  refine cx_276_0 p0 ?_
  refine cx_130_0 p0 ?_
  refine cp_161k (b := 26) rfl (fun h0 => cp_r0 ?_) (fun h0 => cp_x0 ?_)
  · skip
    rw [if_pos h0] at k
    refine cp_163 (fl := 2) hn hs ct_p1 ct_p1 ct_p1 (fun e => cp_x1 ?_) (fun S2 e hS hf => cp_r1 ?_)
    · try dsimp only [cm_sh]
      refine cp_x1 ?_
      refine ⟨by decide, fun h => ?_, fun h => ?_, fun h => ?_⟩
      all_goals first
        | exact absurd h (by decide)
        | exact cq_bad (b := 2) e (by decide) hn k
    · try dsimp only [cm_sh]
      refine cp_r1 ?_
      exact cq_ok e hS hf k
  · try dsimp only [cm_sh]
    refine cp_x1 ?_
    refine ⟨by decide, fun h => ?_, fun h => ?_, fun h => ?_⟩
    all_goals first
      | exact absurd h (by decide)
      | exact cq_bad (b := 1) (by rw [if_neg h0]; exact ct_mkb (by decide)) (by decide) hn k
theorem cs_variable (p0 : Int32) (hn : cl_n S N) (hs : ct_sm N) (k : ∀ S2 r, cl_n S2 (ct_mk N (if 0 ≤ p0.toInt ∧ p0.toInt < 26 then 0 else 1) 2 2 (0) p0 (-1) (-1) (-1) (-1)).2 → S2.1 83 75 = Int32.ofNat (ct_mk N (if 0 ≤ p0.toInt ∧ p0.toInt < 26 then 0 else 1) 2 2 (0) p0 (-1) (-1) (-1) (-1)).1 → ((ct_mk N (if 0 ≤ p0.toInt ∧ p0.toInt < 26 then 0 else 1) 2 2 (0) p0 (-1) (-1) (-1) (-1)).1 = 0 → r = Int32.ofNat N.length) → cf_W cW_m S S2 → K (.inl (some (.int r))) S2 0) : cm_At (am_XX L xs) (d + 3) 182 0 [some (.ref 83), some (.int p0)] [] S K := by
  refine cx_182_0 p0 ?_
  refine cp_175 (fun h0 => cp_r1 ⟨fun c => absurd c (by decide), fun _ => ?_⟩) (fun h0 => cp_r1 ⟨fun _ => ?_, fun c => absurd rfl c⟩)
  · skip
    rw [if_pos h0] at k
    refine cp_180 (fl := 2) (kd := 2) (v := p0) (w := -1) hn hs ct_p1 ct_p1 ct_p1 rfl (by decide) (ct_nmv h0 rfl) (fun S2 r a1 a2 a3 a4 => cp_r1 ?_)
    exact k S2 r a1 a2 a3 a4
  · skip
    refine cp_180b (by decide) (cp_r1 ?_)
    exact cq_badm (b := 1) (by rw [if_neg h0]; exact ct_mkb (by decide)) (by decide) hn k
theorem cq_global (p0 : Int32) (hn : ck_n S N) (hs : ct_sm N) (k : ∀ S2 c, ck_n S2 (ct_mk N (if 0 ≤ p0.toInt ∧ p0.toInt < 8 then 0 else 1) 2 3 (p0.toInt64) (-1) (-1) (-1) (-1) (-1)).2 → cf_W cW_n S S2 → ((ct_mk N (if 0 ≤ p0.toInt ∧ p0.toInt < 8 then 0 else 1) 2 3 (p0.toInt64) (-1) (-1) (-1) (-1) (-1)).1 = 0 → S2.2 132 0 = (Int32.ofNat N.length).toInt64) → c ≤ 1 → K (.inl (some (.int (Int32.ofNat (ct_mk N (if 0 ≤ p0.toInt ∧ p0.toInt < 8 then 0 else 1) 2 3 (p0.toInt64) (-1) (-1) (-1) (-1) (-1)).1)))) S2 c) : cm_At (am_XX L xs) (d + 6) 277 0 [some (.ref 0), some (.int p0), some (.ref 132), none] [] S K := by
  refine cx_277_0 p0 ?_
  refine cx_131_0 p0 ?_
  refine cp_161k (b := 8) rfl (fun h0 => cp_r0 ?_) (fun h0 => cp_x0 ?_)
  · skip
    rw [if_pos h0] at k
    refine cp_163 (fl := 2) hn hs ct_p1 ct_p1 ct_p1 (fun e => cp_x1 ?_) (fun S2 e hS hf => cp_r1 ?_)
    · try dsimp only [cm_sh]
      refine cp_x1 ?_
      refine ⟨by decide, fun h => ?_, fun h => ?_, fun h => ?_⟩
      all_goals first
        | exact absurd h (by decide)
        | exact cq_bad (b := 2) e (by decide) hn k
    · try dsimp only [cm_sh]
      refine cp_r1 ?_
      exact cq_ok e hS hf k
  · try dsimp only [cm_sh]
    refine cp_x1 ?_
    refine ⟨by decide, fun h => ?_, fun h => ?_, fun h => ?_⟩
    all_goals first
      | exact absurd h (by decide)
      | exact cq_bad (b := 1) (by rw [if_neg h0]; exact ct_mkb (by decide)) (by decide) hn k
theorem cs_global (p0 : Int32) (hn : cl_n S N) (hs : ct_sm N) (k : ∀ S2 r, cl_n S2 (ct_mk N (if 0 ≤ p0.toInt ∧ p0.toInt < 8 then 0 else 1) 2 3 (p0.toInt64) (-1) (-1) (-1) (-1) (-1)).2 → S2.1 83 75 = Int32.ofNat (ct_mk N (if 0 ≤ p0.toInt ∧ p0.toInt < 8 then 0 else 1) 2 3 (p0.toInt64) (-1) (-1) (-1) (-1) (-1)).1 → ((ct_mk N (if 0 ≤ p0.toInt ∧ p0.toInt < 8 then 0 else 1) 2 3 (p0.toInt64) (-1) (-1) (-1) (-1) (-1)).1 = 0 → r = Int32.ofNat N.length) → cf_W cW_m S S2 → K (.inl (some (.int r))) S2 0) : cm_At (am_XX L xs) (d + 3) 183 0 [some (.ref 83), some (.int p0)] [] S K := by
  refine cx_183_0 p0 ?_
  refine cp_176 (fun h0 => cp_r1 ⟨fun c => absurd c (by decide), fun _ => ?_⟩) (fun h0 => cp_r1 ⟨fun _ => ?_, fun c => absurd rfl c⟩)
  · skip
    rw [if_pos h0] at k
    refine cp_180 (fl := 2) (kd := 3) (v := -1) (w := -1) hn hs ct_p1 ct_p1 ct_p1 rfl (by decide) rfl (fun S2 r a1 a2 a3 a4 => cp_r1 ?_)
    exact k S2 r a1 a2 a3 a4
  · skip
    refine cp_180b (by decide) (cp_r1 ?_)
    exact cq_badm (b := 1) (by rw [if_neg h0]; exact ct_mkb (by decide)) (by decide) hn k
theorem cq_lambda (p0 : Int32) (p1 : Int32) (hn : ck_n S N) (hs : ct_sm N) (k : ∀ S2 c, ck_n S2 (ct_mk N (if ct_is N p1 then (if 0 ≤ p0.toInt ∧ p0.toInt < 26 then 0 else 2) else 1) 3 4 (0) p0 (-1) p1 (-1) (-1)).2 → cf_W cW_n S S2 → ((ct_mk N (if ct_is N p1 then (if 0 ≤ p0.toInt ∧ p0.toInt < 26 then 0 else 2) else 1) 3 4 (0) p0 (-1) p1 (-1) (-1)).1 = 0 → S2.2 132 0 = (Int32.ofNat N.length).toInt64) → c ≤ 1 → K (.inl (some (.int (Int32.ofNat (ct_mk N (if ct_is N p1 then (if 0 ≤ p0.toInt ∧ p0.toInt < 26 then 0 else 2) else 1) 3 4 (0) p0 (-1) p1 (-1) (-1)).1)))) S2 c) : cm_At (am_XX L xs) (d + 6) 278 0 [some (.ref 0), some (.int p0), some (.int p1), some (.ref 132), none] [] S K := by
  refine cx_278_0 p0 p1 ?_
  refine cx_132_0 p0 p1 ?_
  refine cp_157 hn (fun h0 => cp_r0 ?_) (fun h0 => cp_x0 ?_)
  · skip
    refine cp_161k (b := 26) rfl (fun h1 => cp_r0 ?_) (fun h1 => cp_x0 ?_)
    · skip
      rw [if_pos h0, if_pos h1] at k
      refine cp_163 (fl := 3) hn hs (ct_p2 h0) ct_p1 ct_p1 (fun e => cp_x1 ?_) (fun S2 e hS hf => cp_r1 ?_)
      · try dsimp only [cm_sh]
        refine cp_x1 ?_
        refine ⟨by decide, fun h => ?_, fun h => ?_, fun h => ?_⟩
        all_goals first
          | exact absurd h (by decide)
          | exact cq_bad (b := 3) e (by decide) hn k
      · try dsimp only [cm_sh]
        refine cp_r1 ?_
        exact cq_ok e hS hf k
    · try dsimp only [cm_sh]
      refine cp_x1 ?_
      refine ⟨by decide, fun h => ?_, fun h => ?_, fun h => ?_⟩
      all_goals first
        | exact absurd h (by decide)
        | exact cq_bad (b := 2) (by rw [if_pos h0, if_neg h1]; exact ct_mkb (by decide)) (by decide) hn k
  · try dsimp only [cm_sh]
    refine cp_x1 ?_
    refine ⟨by decide, fun h => ?_, fun h => ?_, fun h => ?_⟩
    all_goals first
      | exact absurd h (by decide)
      | exact cq_bad (b := 1) (by rw [if_neg h0]; exact ct_mkb (by decide)) (by decide) hn k
theorem cs_lambda (p0 : Int32) (p1 : Int32) (hn : cl_n S N) (hs : ct_sm N) (k : ∀ S2 r, cl_n S2 (ct_mk N (if ct_is N p1 then (if 0 ≤ p0.toInt ∧ p0.toInt < 26 then 0 else 2) else 1) 3 4 (0) p0 (-1) p1 (-1) (-1)).2 → S2.1 83 75 = Int32.ofNat (ct_mk N (if ct_is N p1 then (if 0 ≤ p0.toInt ∧ p0.toInt < 26 then 0 else 2) else 1) 3 4 (0) p0 (-1) p1 (-1) (-1)).1 → ((ct_mk N (if ct_is N p1 then (if 0 ≤ p0.toInt ∧ p0.toInt < 26 then 0 else 2) else 1) 3 4 (0) p0 (-1) p1 (-1) (-1)).1 = 0 → r = Int32.ofNat N.length) → cf_W cW_m S S2 → K (.inl (some (.int r))) S2 0) : cm_At (am_XX L xs) (d + 3) 184 0 [some (.ref 83), some (.int p0), some (.int p1)] [] S K := by
  refine cx_184_0 p0 p1 ?_
  refine cp_177 hn (fun h0 => cp_r1 ⟨fun c => absurd c (by decide), fun _ => ?_⟩) (fun h0 => cp_r1 ⟨fun _ => ?_, fun c => absurd rfl c⟩)
  · skip
    refine cp_175 (fun h1 => cp_r1 ⟨fun c => absurd c (by decide), fun _ => ?_⟩) (fun h1 => cp_r1 ⟨fun _ => ?_, fun c => absurd rfl c⟩)
    · skip
      rw [if_pos h0, if_pos h1] at k
      refine cp_180 (fl := 3) (kd := 4) (v := p0) (w := -1) hn hs (ct_p2 h0) ct_p1 ct_p1 rfl (by decide) (ct_nmv h1 rfl) (fun S2 r a1 a2 a3 a4 => cp_r1 ?_)
      exact k S2 r a1 a2 a3 a4
    · skip
      refine cp_180b (by decide) (cp_r1 ?_)
      exact cq_badm (b := 2) (by rw [if_pos h0, if_neg h1]; exact ct_mkb (by decide)) (by decide) hn k
  · skip
    refine cp_180b (by decide) (cp_r1 ?_)
    exact cq_badm (b := 1) (by rw [if_neg h0]; exact ct_mkb (by decide)) (by decide) hn k
theorem cq_apply (p0 : Int32) (p1 : Int32) (hn : ck_n S N) (hs : ct_sm N) (k : ∀ S2 c, ck_n S2 (ct_mk N (if ct_is N p0 then (if ct_is N p1 then 0 else 1) else 1) 2 5 (0) (-1) (-1) p0 p1 (-1)).2 → cf_W cW_n S S2 → ((ct_mk N (if ct_is N p0 then (if ct_is N p1 then 0 else 1) else 1) 2 5 (0) (-1) (-1) p0 p1 (-1)).1 = 0 → S2.2 132 0 = (Int32.ofNat N.length).toInt64) → c ≤ 1 → K (.inl (some (.int (Int32.ofNat (ct_mk N (if ct_is N p0 then (if ct_is N p1 then 0 else 1) else 1) 2 5 (0) (-1) (-1) p0 p1 (-1)).1)))) S2 c) : cm_At (am_XX L xs) (d + 6) 279 0 [some (.ref 0), some (.int p0), some (.int p1), some (.ref 132), none] [] S K := by
  refine cx_279_0 p0 p1 ?_
  refine cx_133_0 p0 p1 ?_
  refine cp_157 hn (fun h0 => cp_r0 ?_) (fun h0 => cp_x0 ?_)
  · skip
    refine cp_157 hn (fun h1 => cp_r0 ?_) (fun h1 => cp_x0 ?_)
    · skip
      rw [if_pos h0, if_pos h1] at k
      refine cp_163 (fl := 2) hn hs (ct_p2 h0) (ct_p2 h1) ct_p1 (fun e => cp_x1 ?_) (fun S2 e hS hf => cp_r1 ?_)
      · try dsimp only [cm_sh]
        refine cp_x1 ?_
        refine ⟨by decide, fun h => ?_, fun h => ?_, fun h => ?_⟩
        all_goals first
          | exact absurd h (by decide)
          | exact cq_bad (b := 2) e (by decide) hn k
      · try dsimp only [cm_sh]
        refine cp_r1 ?_
        exact cq_ok e hS hf k
    · try dsimp only [cm_sh]
      refine cp_x1 ?_
      refine ⟨by decide, fun h => ?_, fun h => ?_, fun h => ?_⟩
      all_goals first
        | exact absurd h (by decide)
        | exact cq_bad (b := 1) (by rw [if_pos h0, if_neg h1]; exact ct_mkb (by decide)) (by decide) hn k
  · try dsimp only [cm_sh]
    refine cp_x1 ?_
    refine ⟨by decide, fun h => ?_, fun h => ?_, fun h => ?_⟩
    all_goals first
      | exact absurd h (by decide)
      | exact cq_bad (b := 1) (by rw [if_neg h0]; exact ct_mkb (by decide)) (by decide) hn k
theorem cs_apply (p0 : Int32) (p1 : Int32) (hn : cl_n S N) (hs : ct_sm N) (k : ∀ S2 r, cl_n S2 (ct_mk N (if ct_is N p0 then (if ct_is N p1 then 0 else 1) else 1) 2 5 (0) (-1) (-1) p0 p1 (-1)).2 → S2.1 83 75 = Int32.ofNat (ct_mk N (if ct_is N p0 then (if ct_is N p1 then 0 else 1) else 1) 2 5 (0) (-1) (-1) p0 p1 (-1)).1 → ((ct_mk N (if ct_is N p0 then (if ct_is N p1 then 0 else 1) else 1) 2 5 (0) (-1) (-1) p0 p1 (-1)).1 = 0 → r = Int32.ofNat N.length) → cf_W cW_m S S2 → K (.inl (some (.int r))) S2 0) : cm_At (am_XX L xs) (d + 3) 185 0 [some (.ref 83), some (.int p0), some (.int p1)] [] S K := by
  refine cx_185_0 p0 p1 ?_
  refine cp_177 hn (fun h0 => cp_r1 ⟨fun c => absurd c (by decide), fun _ => ?_⟩) (fun h0 => cp_r1 ⟨fun _ => ?_, fun c => absurd rfl c⟩)
  · skip
    refine cp_177 hn (fun h1 => cp_r1 ⟨fun c => absurd c (by decide), fun _ => ?_⟩) (fun h1 => cp_r1 ⟨fun _ => ?_, fun c => absurd rfl c⟩)
    · skip
      rw [if_pos h0, if_pos h1] at k
      refine cp_180 (fl := 2) (kd := 5) (v := -1) (w := -1) hn hs (ct_p2 h0) (ct_p2 h1) ct_p1 rfl (by decide) rfl (fun S2 r a1 a2 a3 a4 => cp_r1 ?_)
      exact k S2 r a1 a2 a3 a4
    · skip
      refine cp_180b (by decide) (cp_r1 ?_)
      exact cq_badm (b := 1) (by rw [if_pos h0, if_neg h1]; exact ct_mkb (by decide)) (by decide) hn k
  · skip
    refine cp_180b (by decide) (cp_r1 ?_)
    exact cq_badm (b := 1) (by rw [if_neg h0]; exact ct_mkb (by decide)) (by decide) hn k
theorem cq_let0 (p0 : Int32) (p1 : Int32) (p2 : Int32) (p3 : Int32) (h3 : p3 = 0) (hn : ck_n S N) (hs : ct_sm N) (k : ∀ S2 c, ck_n S2 (ct_mk N (if ct_is N p1 then (if ct_is N p2 then (if 0 ≤ p0.toInt ∧ p0.toInt < 26 then 0 else 2) else 1) else 1) 3 6 (0) p0 (-1) p1 p2 (-1)).2 → cf_W cW_n S S2 → ((ct_mk N (if ct_is N p1 then (if ct_is N p2 then (if 0 ≤ p0.toInt ∧ p0.toInt < 26 then 0 else 2) else 1) else 1) 3 6 (0) p0 (-1) p1 p2 (-1)).1 = 0 → S2.2 132 0 = (Int32.ofNat N.length).toInt64) → c ≤ 1 → K (.inl (some (.int (Int32.ofNat (ct_mk N (if ct_is N p1 then (if ct_is N p2 then (if 0 ≤ p0.toInt ∧ p0.toInt < 26 then 0 else 2) else 1) else 1) 3 6 (0) p0 (-1) p1 p2 (-1)).1)))) S2 c) : cm_At (am_XX L xs) (d + 6) 280 0 [some (.ref 0), some (.int p0), some (.int p1), some (.int p2), some (.int p3), some (.ref 132), none] [] S K := by
  refine cx_280_0 p0 p1 p2 p3 ?_
  refine cx_134_0 p0 p1 p2 p3 ?_
  refine cp_157 hn (fun h0 => cp_r0 ?_) (fun h0 => cp_x0 ?_)
  · skip
    refine cp_157 hn (fun h1 => cp_r0 ?_) (fun h1 => cp_x0 ?_)
    · skip
      refine cp_161k (b := 26) rfl (fun h2 => cp_r0 ?_) (fun h2 => cp_x0 ?_)
      · skip
        refine ⟨fun _ => ?_, fun h => absurd h3 h⟩
        rw [if_pos h0, if_pos h1, if_pos h2] at k
        refine cp_163 (fl := 3) hn hs (ct_p2 h0) (ct_p2 h1) ct_p1 (fun e => cp_x1 ?_) (fun S2 e hS hf => cp_r1 ?_)
        · try dsimp only [cm_sh]
          refine cp_x1 ?_
          refine ⟨by decide, fun h => ?_, fun h => ?_, fun h => ?_⟩
          all_goals first
            | exact absurd h (by decide)
            | exact cq_bad (b := 3) e (by decide) hn k
        · try dsimp only [cm_sh]
          refine cp_r1 ?_
          exact cq_ok e hS hf k
      · try dsimp only [cm_sh]
        refine cp_x1 ?_
        refine ⟨by decide, fun h => ?_, fun h => ?_, fun h => ?_⟩
        all_goals first
          | exact absurd h (by decide)
          | exact cq_bad (b := 2) (by rw [if_pos h0, if_pos h1, if_neg h2]; exact ct_mkb (by decide)) (by decide) hn k
    · try dsimp only [cm_sh]
      refine cp_x1 ?_
      refine ⟨by decide, fun h => ?_, fun h => ?_, fun h => ?_⟩
      all_goals first
        | exact absurd h (by decide)
        | exact cq_bad (b := 1) (by rw [if_pos h0, if_neg h1]; exact ct_mkb (by decide)) (by decide) hn k
  · try dsimp only [cm_sh]
    refine cp_x1 ?_
    refine ⟨by decide, fun h => ?_, fun h => ?_, fun h => ?_⟩
    all_goals first
      | exact absurd h (by decide)
      | exact cq_bad (b := 1) (by rw [if_neg h0]; exact ct_mkb (by decide)) (by decide) hn k
theorem cs_let0 (p0 : Int32) (p1 : Int32) (p2 : Int32) (p3 : Int32) (h3 : p3 = 0) (hn : cl_n S N) (hs : ct_sm N) (k : ∀ S2 r, cl_n S2 (ct_mk N (if ct_is N p1 then (if ct_is N p2 then (if 0 ≤ p0.toInt ∧ p0.toInt < 26 then 0 else 2) else 1) else 1) 3 6 (0) p0 (-1) p1 p2 (-1)).2 → S2.1 83 75 = Int32.ofNat (ct_mk N (if ct_is N p1 then (if ct_is N p2 then (if 0 ≤ p0.toInt ∧ p0.toInt < 26 then 0 else 2) else 1) else 1) 3 6 (0) p0 (-1) p1 p2 (-1)).1 → ((ct_mk N (if ct_is N p1 then (if ct_is N p2 then (if 0 ≤ p0.toInt ∧ p0.toInt < 26 then 0 else 2) else 1) else 1) 3 6 (0) p0 (-1) p1 p2 (-1)).1 = 0 → r = Int32.ofNat N.length) → cf_W cW_m S S2 → K (.inl (some (.int r))) S2 0) : cm_At (am_XX L xs) (d + 3) 186 0 [some (.ref 83), some (.int p0), some (.int p1), some (.int p2), some (.int p3)] [] S K := by
  refine cx_186_0 p0 p1 p2 p3 ?_
  refine cp_177 hn (fun h0 => cp_r1 ⟨fun c => absurd c (by decide), fun _ => ?_⟩) (fun h0 => cp_r1 ⟨fun _ => ?_, fun c => absurd rfl c⟩)
  · skip
    refine cp_177 hn (fun h1 => cp_r1 ⟨fun c => absurd c (by decide), fun _ => ?_⟩) (fun h1 => cp_r1 ⟨fun _ => ?_, fun c => absurd rfl c⟩)
    · skip
      refine cp_175 (fun h2 => cp_r1 ⟨fun c => absurd c (by decide), fun _ => ?_⟩) (fun h2 => cp_r1 ⟨fun _ => ?_, fun c => absurd rfl c⟩)
      · skip
        refine ⟨fun _ => ?_, fun h => absurd h3 h⟩
        rw [if_pos h0, if_pos h1, if_pos h2] at k
        refine cp_180 (fl := 3) (kd := 6) (v := p0) (w := -1) hn hs (ct_p2 h0) (ct_p2 h1) ct_p1 rfl (by decide) (ct_nmv h2 rfl) (fun S2 r a1 a2 a3 a4 => cp_r1 ?_)
        exact k S2 r a1 a2 a3 a4
      · skip
        refine ⟨fun _ => ?_, fun h => absurd h3 h⟩
        refine cp_180b (by decide) (cp_r1 ?_)
        exact cq_badm (b := 2) (by rw [if_pos h0, if_pos h1, if_neg h2]; exact ct_mkb (by decide)) (by decide) hn k
    · skip
      refine ⟨fun _ => ?_, fun h => absurd h3 h⟩
      refine cp_180b (by decide) (cp_r1 ?_)
      exact cq_badm (b := 1) (by rw [if_pos h0, if_neg h1]; exact ct_mkb (by decide)) (by decide) hn k
  · skip
    refine ⟨fun _ => ?_, fun h => absurd h3 h⟩
    refine cp_180b (by decide) (cp_r1 ?_)
    exact cq_badm (b := 1) (by rw [if_neg h0]; exact ct_mkb (by decide)) (by decide) hn k
theorem cq_let1 (p0 : Int32) (p1 : Int32) (p2 : Int32) (p3 : Int32) (h3 : ¬ p3 = 0) (hn : ck_n S N) (hs : ct_sm N) (k : ∀ S2 c, ck_n S2 (ct_mk N (if ct_is N p1 then (if ct_is N p2 then (if 0 ≤ p0.toInt ∧ p0.toInt < 26 then 0 else 2) else 1) else 1) 3 7 (0) p0 (-1) p1 p2 (-1)).2 → cf_W cW_n S S2 → ((ct_mk N (if ct_is N p1 then (if ct_is N p2 then (if 0 ≤ p0.toInt ∧ p0.toInt < 26 then 0 else 2) else 1) else 1) 3 7 (0) p0 (-1) p1 p2 (-1)).1 = 0 → S2.2 132 0 = (Int32.ofNat N.length).toInt64) → c ≤ 1 → K (.inl (some (.int (Int32.ofNat (ct_mk N (if ct_is N p1 then (if ct_is N p2 then (if 0 ≤ p0.toInt ∧ p0.toInt < 26 then 0 else 2) else 1) else 1) 3 7 (0) p0 (-1) p1 p2 (-1)).1)))) S2 c) : cm_At (am_XX L xs) (d + 6) 280 0 [some (.ref 0), some (.int p0), some (.int p1), some (.int p2), some (.int p3), some (.ref 132), none] [] S K := by
  refine cx_280_0 p0 p1 p2 p3 ?_
  refine cx_134_0 p0 p1 p2 p3 ?_
  refine cp_157 hn (fun h0 => cp_r0 ?_) (fun h0 => cp_x0 ?_)
  · skip
    refine cp_157 hn (fun h1 => cp_r0 ?_) (fun h1 => cp_x0 ?_)
    · skip
      refine cp_161k (b := 26) rfl (fun h2 => cp_r0 ?_) (fun h2 => cp_x0 ?_)
      · skip
        refine ⟨fun h => absurd h h3, fun _ => ?_⟩
        rw [if_pos h0, if_pos h1, if_pos h2] at k
        refine cp_163 (fl := 3) hn hs (ct_p2 h0) (ct_p2 h1) ct_p1 (fun e => cp_x1 ?_) (fun S2 e hS hf => cp_r1 ?_)
        · try dsimp only [cm_sh]
          refine cp_x1 ?_
          refine ⟨by decide, fun h => ?_, fun h => ?_, fun h => ?_⟩
          all_goals first
            | exact absurd h (by decide)
            | exact cq_bad (b := 3) e (by decide) hn k
        · try dsimp only [cm_sh]
          refine cp_r1 ?_
          exact cq_ok e hS hf k
      · try dsimp only [cm_sh]
        refine cp_x1 ?_
        refine ⟨by decide, fun h => ?_, fun h => ?_, fun h => ?_⟩
        all_goals first
          | exact absurd h (by decide)
          | exact cq_bad (b := 2) (by rw [if_pos h0, if_pos h1, if_neg h2]; exact ct_mkb (by decide)) (by decide) hn k
    · try dsimp only [cm_sh]
      refine cp_x1 ?_
      refine ⟨by decide, fun h => ?_, fun h => ?_, fun h => ?_⟩
      all_goals first
        | exact absurd h (by decide)
        | exact cq_bad (b := 1) (by rw [if_pos h0, if_neg h1]; exact ct_mkb (by decide)) (by decide) hn k
  · try dsimp only [cm_sh]
    refine cp_x1 ?_
    refine ⟨by decide, fun h => ?_, fun h => ?_, fun h => ?_⟩
    all_goals first
      | exact absurd h (by decide)
      | exact cq_bad (b := 1) (by rw [if_neg h0]; exact ct_mkb (by decide)) (by decide) hn k
theorem cs_let1 (p0 : Int32) (p1 : Int32) (p2 : Int32) (p3 : Int32) (h3 : ¬ p3 = 0) (hn : cl_n S N) (hs : ct_sm N) (k : ∀ S2 r, cl_n S2 (ct_mk N (if ct_is N p1 then (if ct_is N p2 then (if 0 ≤ p0.toInt ∧ p0.toInt < 26 then 0 else 2) else 1) else 1) 3 7 (0) p0 (-1) p1 p2 (-1)).2 → S2.1 83 75 = Int32.ofNat (ct_mk N (if ct_is N p1 then (if ct_is N p2 then (if 0 ≤ p0.toInt ∧ p0.toInt < 26 then 0 else 2) else 1) else 1) 3 7 (0) p0 (-1) p1 p2 (-1)).1 → ((ct_mk N (if ct_is N p1 then (if ct_is N p2 then (if 0 ≤ p0.toInt ∧ p0.toInt < 26 then 0 else 2) else 1) else 1) 3 7 (0) p0 (-1) p1 p2 (-1)).1 = 0 → r = Int32.ofNat N.length) → cf_W cW_m S S2 → K (.inl (some (.int r))) S2 0) : cm_At (am_XX L xs) (d + 3) 186 0 [some (.ref 83), some (.int p0), some (.int p1), some (.int p2), some (.int p3)] [] S K := by
  refine cx_186_0 p0 p1 p2 p3 ?_
  refine cp_177 hn (fun h0 => cp_r1 ⟨fun c => absurd c (by decide), fun _ => ?_⟩) (fun h0 => cp_r1 ⟨fun _ => ?_, fun c => absurd rfl c⟩)
  · skip
    refine cp_177 hn (fun h1 => cp_r1 ⟨fun c => absurd c (by decide), fun _ => ?_⟩) (fun h1 => cp_r1 ⟨fun _ => ?_, fun c => absurd rfl c⟩)
    · skip
      refine cp_175 (fun h2 => cp_r1 ⟨fun c => absurd c (by decide), fun _ => ?_⟩) (fun h2 => cp_r1 ⟨fun _ => ?_, fun c => absurd rfl c⟩)
      · skip
        refine ⟨fun h => absurd h h3, fun _ => ?_⟩
        rw [if_pos h0, if_pos h1, if_pos h2] at k
        refine cp_180 (fl := 3) (kd := 7) (v := p0) (w := -1) hn hs (ct_p2 h0) (ct_p2 h1) ct_p1 rfl (by decide) (ct_nmv h2 rfl) (fun S2 r a1 a2 a3 a4 => cp_r1 ?_)
        exact k S2 r a1 a2 a3 a4
      · skip
        refine ⟨fun h => absurd h h3, fun _ => ?_⟩
        refine cp_180b (by decide) (cp_r1 ?_)
        exact cq_badm (b := 2) (by rw [if_pos h0, if_pos h1, if_neg h2]; exact ct_mkb (by decide)) (by decide) hn k
    · skip
      refine ⟨fun h => absurd h h3, fun _ => ?_⟩
      refine cp_180b (by decide) (cp_r1 ?_)
      exact cq_badm (b := 1) (by rw [if_pos h0, if_neg h1]; exact ct_mkb (by decide)) (by decide) hn k
  · skip
    refine ⟨fun h => absurd h h3, fun _ => ?_⟩
    refine cp_180b (by decide) (cp_r1 ?_)
    exact cq_badm (b := 1) (by rw [if_neg h0]; exact ct_mkb (by decide)) (by decide) hn k
theorem cq_primitive (p0 : Int32) (p1 : Int32) (p2 : Int32) (hn : ck_n S N) (hs : ct_sm N) (k : ∀ S2 c, ck_n S2 (ct_mk N (if ct_is N p1 then (if ct_is N p2 then (if 0 ≤ p0.toInt ∧ p0.toInt < 5 then 0 else 2) else 1) else 1) 3 9 (p0.toInt64) (-1) (-1) p1 p2 (-1)).2 → cf_W cW_n S S2 → ((ct_mk N (if ct_is N p1 then (if ct_is N p2 then (if 0 ≤ p0.toInt ∧ p0.toInt < 5 then 0 else 2) else 1) else 1) 3 9 (p0.toInt64) (-1) (-1) p1 p2 (-1)).1 = 0 → S2.2 132 0 = (Int32.ofNat N.length).toInt64) → c ≤ 1 → K (.inl (some (.int (Int32.ofNat (ct_mk N (if ct_is N p1 then (if ct_is N p2 then (if 0 ≤ p0.toInt ∧ p0.toInt < 5 then 0 else 2) else 1) else 1) 3 9 (p0.toInt64) (-1) (-1) p1 p2 (-1)).1)))) S2 c) : cm_At (am_XX L xs) (d + 6) 281 0 [some (.ref 0), some (.int p0), some (.int p1), some (.int p2), some (.ref 132), none] [] S K := by
  refine cx_281_0 p0 p1 p2 ?_
  refine cx_135_0 p0 p1 p2 ?_
  refine cp_157 hn (fun h0 => cp_r0 ?_) (fun h0 => cp_x0 ?_)
  · skip
    refine cp_157 hn (fun h1 => cp_r0 ?_) (fun h1 => cp_x0 ?_)
    · skip
      refine cp_161k (b := 5) rfl (fun h2 => cp_r0 ?_) (fun h2 => cp_x0 ?_)
      · skip
        rw [if_pos h0, if_pos h1, if_pos h2] at k
        refine cp_163 (fl := 3) hn hs (ct_p2 h0) (ct_p2 h1) ct_p1 (fun e => cp_x1 ?_) (fun S2 e hS hf => cp_r1 ?_)
        · try dsimp only [cm_sh]
          refine cp_x1 ?_
          refine ⟨by decide, fun h => ?_, fun h => ?_, fun h => ?_⟩
          all_goals first
            | exact absurd h (by decide)
            | exact cq_bad (b := 3) e (by decide) hn k
        · try dsimp only [cm_sh]
          refine cp_r1 ?_
          exact cq_ok e hS hf k
      · try dsimp only [cm_sh]
        refine cp_x1 ?_
        refine ⟨by decide, fun h => ?_, fun h => ?_, fun h => ?_⟩
        all_goals first
          | exact absurd h (by decide)
          | exact cq_bad (b := 2) (by rw [if_pos h0, if_pos h1, if_neg h2]; exact ct_mkb (by decide)) (by decide) hn k
    · try dsimp only [cm_sh]
      refine cp_x1 ?_
      refine ⟨by decide, fun h => ?_, fun h => ?_, fun h => ?_⟩
      all_goals first
        | exact absurd h (by decide)
        | exact cq_bad (b := 1) (by rw [if_pos h0, if_neg h1]; exact ct_mkb (by decide)) (by decide) hn k
  · try dsimp only [cm_sh]
    refine cp_x1 ?_
    refine ⟨by decide, fun h => ?_, fun h => ?_, fun h => ?_⟩
    all_goals first
      | exact absurd h (by decide)
      | exact cq_bad (b := 1) (by rw [if_neg h0]; exact ct_mkb (by decide)) (by decide) hn k
theorem cs_primitive (p0 : Int32) (p1 : Int32) (p2 : Int32) (hn : cl_n S N) (hs : ct_sm N) (k : ∀ S2 r, cl_n S2 (ct_mk N (if ct_is N p1 then (if ct_is N p2 then (if 0 ≤ p0.toInt ∧ p0.toInt < 5 then 0 else 2) else 1) else 1) 3 9 (p0.toInt64) (-1) (-1) p1 p2 (-1)).2 → S2.1 83 75 = Int32.ofNat (ct_mk N (if ct_is N p1 then (if ct_is N p2 then (if 0 ≤ p0.toInt ∧ p0.toInt < 5 then 0 else 2) else 1) else 1) 3 9 (p0.toInt64) (-1) (-1) p1 p2 (-1)).1 → ((ct_mk N (if ct_is N p1 then (if ct_is N p2 then (if 0 ≤ p0.toInt ∧ p0.toInt < 5 then 0 else 2) else 1) else 1) 3 9 (p0.toInt64) (-1) (-1) p1 p2 (-1)).1 = 0 → r = Int32.ofNat N.length) → cf_W cW_m S S2 → K (.inl (some (.int r))) S2 0) : cm_At (am_XX L xs) (d + 3) 187 0 [some (.ref 83), some (.int p0), some (.int p1), some (.int p2)] [] S K := by
  refine cx_187_0 p0 p1 p2 ?_
  refine cp_177 hn (fun h0 => cp_r1 ⟨fun c => absurd c (by decide), fun _ => ?_⟩) (fun h0 => cp_r1 ⟨fun _ => ?_, fun c => absurd rfl c⟩)
  · skip
    refine cp_177 hn (fun h1 => cp_r1 ⟨fun c => absurd c (by decide), fun _ => ?_⟩) (fun h1 => cp_r1 ⟨fun _ => ?_, fun c => absurd rfl c⟩)
    · skip
      refine cp_174k (b := 5) rfl rfl (fun h2 => cp_r1 ⟨fun c => absurd c (by decide), fun _ => ?_⟩) (fun h2 => cp_r1 ⟨fun _ => ?_, fun c => absurd rfl c⟩)
      · skip
        rw [if_pos h0, if_pos h1, if_pos h2] at k
        refine cp_180 (fl := 3) (kd := 9) (v := -1) (w := -1) hn hs (ct_p2 h0) (ct_p2 h1) ct_p1 rfl (by decide) rfl (fun S2 r a1 a2 a3 a4 => cp_r1 ?_)
        exact k S2 r a1 a2 a3 a4
      · skip
        refine cp_180b (by decide) (cp_r1 ?_)
        exact cq_badm (b := 2) (by rw [if_pos h0, if_pos h1, if_neg h2]; exact ct_mkb (by decide)) (by decide) hn k
    · skip
      refine cp_180b (by decide) (cp_r1 ?_)
      exact cq_badm (b := 1) (by rw [if_pos h0, if_neg h1]; exact ct_mkb (by decide)) (by decide) hn k
  · skip
    refine cp_180b (by decide) (cp_r1 ?_)
    exact cq_badm (b := 1) (by rw [if_neg h0]; exact ct_mkb (by decide)) (by decide) hn k
theorem cq_nil  (hn : ck_n S N) (hs : ct_sm N) (k : ∀ S2 c, ck_n S2 (ct_mk N 0 1 10 (0) (-1) (-1) (-1) (-1) (-1)).2 → cf_W cW_n S S2 → ((ct_mk N 0 1 10 (0) (-1) (-1) (-1) (-1) (-1)).1 = 0 → S2.2 132 0 = (Int32.ofNat N.length).toInt64) → c ≤ 1 → K (.inl (some (.int (Int32.ofNat (ct_mk N 0 1 10 (0) (-1) (-1) (-1) (-1) (-1)).1)))) S2 c) : cm_At (am_XX L xs) (d + 6) 282 0 [some (.ref 0), some (.ref 132), none] [] S K := by
  refine cx_282_0  ?_
  refine cx_136_0  ?_
  refine cp_163 (fl := 1) hn hs ct_p1 ct_p1 ct_p1 (fun e => cp_x1 ?_) (fun S2 e hS hf => cp_r1 ?_)
  · try dsimp only [cm_sh]
    refine cp_x1 ?_
    refine ⟨by decide, fun h => ?_, fun h => ?_, fun h => ?_⟩
    all_goals first
      | exact absurd h (by decide)
      | exact cq_bad (b := 1) e (by decide) hn k
  · try dsimp only [cm_sh]
    refine cp_r1 ?_
    exact cq_ok e hS hf k
theorem cs_nil  (hn : cl_n S N) (hs : ct_sm N) (k : ∀ S2 r, cl_n S2 (ct_mk N 0 1 10 (0) (-1) (-1) (-1) (-1) (-1)).2 → S2.1 83 75 = Int32.ofNat (ct_mk N 0 1 10 (0) (-1) (-1) (-1) (-1) (-1)).1 → ((ct_mk N 0 1 10 (0) (-1) (-1) (-1) (-1) (-1)).1 = 0 → r = Int32.ofNat N.length) → cf_W cW_m S S2 → K (.inl (some (.int r))) S2 0) : cm_At (am_XX L xs) (d + 3) 188 0 [some (.ref 83)] [] S K := by
  refine cx_188_0  ?_
  refine cp_180 (fl := 1) (kd := 10) (v := -1) (w := -1) hn hs ct_p1 ct_p1 ct_p1 rfl (by decide) rfl (fun S2 r a1 a2 a3 a4 => cp_r1 ?_)
  exact k S2 r a1 a2 a3 a4
theorem cq_cons (p0 : Int32) (p1 : Int32) (hn : ck_n S N) (hs : ct_sm N) (k : ∀ S2 c, ck_n S2 (ct_mk N (if ct_is N p0 then (if ct_is N p1 then 0 else 1) else 1) 2 11 (0) (-1) (-1) p0 p1 (-1)).2 → cf_W cW_n S S2 → ((ct_mk N (if ct_is N p0 then (if ct_is N p1 then 0 else 1) else 1) 2 11 (0) (-1) (-1) p0 p1 (-1)).1 = 0 → S2.2 132 0 = (Int32.ofNat N.length).toInt64) → c ≤ 1 → K (.inl (some (.int (Int32.ofNat (ct_mk N (if ct_is N p0 then (if ct_is N p1 then 0 else 1) else 1) 2 11 (0) (-1) (-1) p0 p1 (-1)).1)))) S2 c) : cm_At (am_XX L xs) (d + 6) 283 0 [some (.ref 0), some (.int p0), some (.int p1), some (.ref 132), none] [] S K := by
  refine cx_283_0 p0 p1 ?_
  refine cx_137_0 p0 p1 ?_
  refine cp_157 hn (fun h0 => cp_r0 ?_) (fun h0 => cp_x0 ?_)
  · skip
    refine cp_157 hn (fun h1 => cp_r0 ?_) (fun h1 => cp_x0 ?_)
    · skip
      rw [if_pos h0, if_pos h1] at k
      refine cp_163 (fl := 2) hn hs (ct_p2 h0) (ct_p2 h1) ct_p1 (fun e => cp_x1 ?_) (fun S2 e hS hf => cp_r1 ?_)
      · try dsimp only [cm_sh]
        refine cp_x1 ?_
        refine ⟨by decide, fun h => ?_, fun h => ?_, fun h => ?_⟩
        all_goals first
          | exact absurd h (by decide)
          | exact cq_bad (b := 2) e (by decide) hn k
      · try dsimp only [cm_sh]
        refine cp_r1 ?_
        exact cq_ok e hS hf k
    · try dsimp only [cm_sh]
      refine cp_x1 ?_
      refine ⟨by decide, fun h => ?_, fun h => ?_, fun h => ?_⟩
      all_goals first
        | exact absurd h (by decide)
        | exact cq_bad (b := 1) (by rw [if_pos h0, if_neg h1]; exact ct_mkb (by decide)) (by decide) hn k
  · try dsimp only [cm_sh]
    refine cp_x1 ?_
    refine ⟨by decide, fun h => ?_, fun h => ?_, fun h => ?_⟩
    all_goals first
      | exact absurd h (by decide)
      | exact cq_bad (b := 1) (by rw [if_neg h0]; exact ct_mkb (by decide)) (by decide) hn k
theorem cs_cons (p0 : Int32) (p1 : Int32) (hn : cl_n S N) (hs : ct_sm N) (k : ∀ S2 r, cl_n S2 (ct_mk N (if ct_is N p0 then (if ct_is N p1 then 0 else 1) else 1) 2 11 (0) (-1) (-1) p0 p1 (-1)).2 → S2.1 83 75 = Int32.ofNat (ct_mk N (if ct_is N p0 then (if ct_is N p1 then 0 else 1) else 1) 2 11 (0) (-1) (-1) p0 p1 (-1)).1 → ((ct_mk N (if ct_is N p0 then (if ct_is N p1 then 0 else 1) else 1) 2 11 (0) (-1) (-1) p0 p1 (-1)).1 = 0 → r = Int32.ofNat N.length) → cf_W cW_m S S2 → K (.inl (some (.int r))) S2 0) : cm_At (am_XX L xs) (d + 3) 189 0 [some (.ref 83), some (.int p0), some (.int p1)] [] S K := by
  refine cx_189_0 p0 p1 ?_
  refine cp_177 hn (fun h0 => cp_r1 ⟨fun c => absurd c (by decide), fun _ => ?_⟩) (fun h0 => cp_r1 ⟨fun _ => ?_, fun c => absurd rfl c⟩)
  · skip
    refine cp_177 hn (fun h1 => cp_r1 ⟨fun c => absurd c (by decide), fun _ => ?_⟩) (fun h1 => cp_r1 ⟨fun _ => ?_, fun c => absurd rfl c⟩)
    · skip
      rw [if_pos h0, if_pos h1] at k
      refine cp_180 (fl := 2) (kd := 11) (v := -1) (w := -1) hn hs (ct_p2 h0) (ct_p2 h1) ct_p1 rfl (by decide) rfl (fun S2 r a1 a2 a3 a4 => cp_r1 ?_)
      exact k S2 r a1 a2 a3 a4
    · skip
      refine cp_180b (by decide) (cp_r1 ?_)
      exact cq_badm (b := 1) (by rw [if_pos h0, if_neg h1]; exact ct_mkb (by decide)) (by decide) hn k
  · skip
    refine cp_180b (by decide) (cp_r1 ?_)
    exact cq_badm (b := 1) (by rw [if_neg h0]; exact ct_mkb (by decide)) (by decide) hn k
theorem cq_match (p0 : Int32) (p1 : Int32) (p2 : Int32) (p3 : Int32) (hn : ck_n S N) (hs : ct_sm N) (k : ∀ S2 c, ck_n S2 (ct_mk N (if ct_is N p0 then (if ct_is N p1 then (if ct_is N p3 then (if 0 ≤ p2.toInt ∧ p2.toInt < 676 then (if ¬ p2 / 26 = p2 - p2 / 26 * 26 then 0 else 2) else 2) else 1) else 1) else 1) 3 12 (0) (p2 / 26) (p2 - p2 / 26 * 26) p0 p1 p3).2 → cf_W cW_n S S2 → ((ct_mk N (if ct_is N p0 then (if ct_is N p1 then (if ct_is N p3 then (if 0 ≤ p2.toInt ∧ p2.toInt < 676 then (if ¬ p2 / 26 = p2 - p2 / 26 * 26 then 0 else 2) else 2) else 1) else 1) else 1) 3 12 (0) (p2 / 26) (p2 - p2 / 26 * 26) p0 p1 p3).1 = 0 → S2.2 132 0 = (Int32.ofNat N.length).toInt64) → c ≤ 1 → K (.inl (some (.int (Int32.ofNat (ct_mk N (if ct_is N p0 then (if ct_is N p1 then (if ct_is N p3 then (if 0 ≤ p2.toInt ∧ p2.toInt < 676 then (if ¬ p2 / 26 = p2 - p2 / 26 * 26 then 0 else 2) else 2) else 1) else 1) else 1) 3 12 (0) (p2 / 26) (p2 - p2 / 26 * 26) p0 p1 p3).1)))) S2 c) : cm_At (am_XX L xs) (d + 6) 284 0 [some (.ref 0), some (.int p0), some (.int p1), some (.int p2), some (.int p3), some (.ref 132), none] [] S K := by
  refine cx_284_0 p0 p1 p2 p3 ?_
  refine cx_138_0 p0 p1 p2 p3 ?_
  refine cp_157 hn (fun h0 => cp_r0 ?_) (fun h0 => cp_x0 ?_)
  · skip
    refine cp_157 hn (fun h1 => cp_r0 ?_) (fun h1 => cp_x0 ?_)
    · skip
      refine cp_157 hn (fun h2 => cp_r0 ?_) (fun h2 => cp_x0 ?_)
      · skip
        refine cp_161k (b := 676) rfl (fun h3 => cp_r0 ?_) (fun h3 => cp_x0 ?_)
        · skip
          refine ⟨by decide, by decide, fun h4 => ?_, fun h4 => ?_⟩
          · try dsimp only [cm_sh]
            refine cp_x1 ?_
            refine ⟨by decide, fun h => ?_, fun h => ?_, fun h => ?_⟩
            all_goals first
              | exact absurd h (by decide)
              | exact cq_bad (b := 2) (by rw [if_pos h0, if_pos h1, if_pos h2, if_pos h3, if_neg (fun h => h h4)]; exact ct_mkb (by decide)) (by decide) hn k
          · skip
            rw [if_pos h0, if_pos h1, if_pos h2, if_pos h3, if_pos h4] at k
            refine cp_163 (fl := 3) hn hs (ct_p2 h0) (ct_p2 h1) (ct_p2 h2) (fun e => cp_x1 ?_) (fun S2 e hS hf => cp_r1 ?_)
            · try dsimp only [cm_sh]
              refine cp_x1 ?_
              refine ⟨by decide, fun h => ?_, fun h => ?_, fun h => ?_⟩
              all_goals first
                | exact absurd h (by decide)
                | exact cq_bad (b := 3) e (by decide) hn k
            · try dsimp only [cm_sh]
              refine cp_r1 ?_
              exact cq_ok e hS hf k
        · try dsimp only [cm_sh]
          refine cp_x1 ?_
          refine ⟨by decide, fun h => ?_, fun h => ?_, fun h => ?_⟩
          all_goals first
            | exact absurd h (by decide)
            | exact cq_bad (b := 2) (by rw [if_pos h0, if_pos h1, if_pos h2, if_neg h3]; exact ct_mkb (by decide)) (by decide) hn k
      · try dsimp only [cm_sh]
        refine cp_x1 ?_
        refine ⟨by decide, fun h => ?_, fun h => ?_, fun h => ?_⟩
        all_goals first
          | exact absurd h (by decide)
          | exact cq_bad (b := 1) (by rw [if_pos h0, if_pos h1, if_neg h2]; exact ct_mkb (by decide)) (by decide) hn k
    · try dsimp only [cm_sh]
      refine cp_x1 ?_
      refine ⟨by decide, fun h => ?_, fun h => ?_, fun h => ?_⟩
      all_goals first
        | exact absurd h (by decide)
        | exact cq_bad (b := 1) (by rw [if_pos h0, if_neg h1]; exact ct_mkb (by decide)) (by decide) hn k
  · try dsimp only [cm_sh]
    refine cp_x1 ?_
    refine ⟨by decide, fun h => ?_, fun h => ?_, fun h => ?_⟩
    all_goals first
      | exact absurd h (by decide)
      | exact cq_bad (b := 1) (by rw [if_neg h0]; exact ct_mkb (by decide)) (by decide) hn k
theorem cs_match (p0 : Int32) (p1 : Int32) (p2 : Int32) (p3 : Int32) (hn : cl_n S N) (hs : ct_sm N) (k : ∀ S2 r, cl_n S2 (ct_mk N (if ct_is N p0 then (if ct_is N p1 then (if ct_is N p3 then (if 0 ≤ p2.toInt ∧ p2.toInt < 676 then (if ¬ p2 / 26 = p2 - p2 / 26 * 26 then 0 else 2) else 2) else 1) else 1) else 1) 3 12 (0) (p2 / 26) (p2 - p2 / 26 * 26) p0 p1 p3).2 → S2.1 83 75 = Int32.ofNat (ct_mk N (if ct_is N p0 then (if ct_is N p1 then (if ct_is N p3 then (if 0 ≤ p2.toInt ∧ p2.toInt < 676 then (if ¬ p2 / 26 = p2 - p2 / 26 * 26 then 0 else 2) else 2) else 1) else 1) else 1) 3 12 (0) (p2 / 26) (p2 - p2 / 26 * 26) p0 p1 p3).1 → ((ct_mk N (if ct_is N p0 then (if ct_is N p1 then (if ct_is N p3 then (if 0 ≤ p2.toInt ∧ p2.toInt < 676 then (if ¬ p2 / 26 = p2 - p2 / 26 * 26 then 0 else 2) else 2) else 1) else 1) else 1) 3 12 (0) (p2 / 26) (p2 - p2 / 26 * 26) p0 p1 p3).1 = 0 → r = Int32.ofNat N.length) → cf_W cW_m S S2 → K (.inl (some (.int r))) S2 0) : cm_At (am_XX L xs) (d + 3) 190 0 [some (.ref 83), some (.int p0), some (.int p1), some (.int p2), some (.int p3), none, none] [] S K := by
  refine cx_190_0 p0 p1 p2 p3 ?_
  refine cp_177 hn (fun h0 => cp_r1 ⟨fun c => absurd c (by decide), fun _ => ?_⟩) (fun h0 => cp_r1 ⟨fun _ => ?_, fun c => absurd rfl c⟩)
  · skip
    refine cp_177 hn (fun h1 => cp_r1 ⟨fun c => absurd c (by decide), fun _ => ?_⟩) (fun h1 => cp_r1 ⟨fun _ => ?_, fun c => absurd rfl c⟩)
    · skip
      refine cp_177 hn (fun h2 => cp_r1 ⟨fun c => absurd c (by decide), fun _ => ?_⟩) (fun h2 => cp_r1 ⟨fun _ => ?_, fun c => absurd rfl c⟩)
      · skip
        refine cp_174k (b := 676) rfl rfl (fun h3 => cp_r1 ⟨fun c => absurd c (by decide), fun _ => ?_⟩) (fun h3 => cp_r1 ⟨fun _ => ?_, fun c => absurd rfl c⟩)
        · skip
          refine ⟨by decide, by decide, fun h4 => ?_, fun h4 => ?_⟩
          · refine cx_190_58 p0 p1 p2 p3 1 ⟨fun c => absurd c (by decide), fun _ => ⟨fun _ => ?_, fun c => absurd rfl c⟩⟩
            refine cp_180b (by decide) (cp_r1 ?_)
            exact cq_badm (b := 2) (by rw [if_pos h0, if_pos h1, if_pos h2, if_pos h3, if_neg (fun h => h h4)]; exact ct_mkb (by decide)) (by decide) hn k
          · skip
            refine ⟨fun c => absurd c (by decide), fun _ => ⟨fun c => absurd c (by decide), fun _ => ?_⟩⟩
            rw [if_pos h0, if_pos h1, if_pos h2, if_pos h3, if_pos h4] at k
            refine cp_180 (fl := 3) (kd := 12) (v := (p2 / 26)) (w := (p2 - p2 / 26 * 26)) hn hs (ct_p2 h0) (ct_p2 h1) (ct_p2 h2) rfl (by decide) ct_nm12 (fun S2 r a1 a2 a3 a4 => cp_r1 ?_)
            exact k S2 r a1 a2 a3 a4
        · refine cx_190_58 p0 p1 p2 p3 1 ⟨fun c => absurd c (by decide), fun _ => ⟨fun _ => ?_, fun c => absurd rfl c⟩⟩
          refine cp_180b (by decide) (cp_r1 ?_)
          exact cq_badm (b := 2) (by rw [if_pos h0, if_pos h1, if_pos h2, if_neg h3]; exact ct_mkb (by decide)) (by decide) hn k
      · refine cx_190_29 p0 p1 p2 p3 ?_
        refine cp_174 (cp_r1 ?_)
        refine ⟨fun _ => ?_, fun _ => ⟨by decide, by decide, fun _ => ?_, fun _ => ⟨fun _ => ?_, fun c => absurd rfl c⟩⟩⟩
        · skip
          refine cx_190_58 p0 p1 p2 p3 0 ⟨fun _ => ?_, fun c => absurd rfl c⟩
          refine cp_180b (by decide) (cp_r1 ?_)
          exact cq_badm (b := 1) (by rw [if_pos h0, if_pos h1, if_neg h2]; exact ct_mkb (by decide)) (by decide) hn k
        · skip
          refine cx_190_58 p0 p1 p2 p3 0 ⟨fun _ => ?_, fun c => absurd rfl c⟩
          refine cp_180b (by decide) (cp_r1 ?_)
          exact cq_badm (b := 1) (by rw [if_pos h0, if_pos h1, if_neg h2]; exact ct_mkb (by decide)) (by decide) hn k
        · skip
          refine cp_180b (by decide) (cp_r1 ?_)
          exact cq_badm (b := 1) (by rw [if_pos h0, if_pos h1, if_neg h2]; exact ct_mkb (by decide)) (by decide) hn k
    · refine cx_190_29 p0 p1 p2 p3 ?_
      refine cp_174 (cp_r1 ?_)
      refine ⟨fun _ => ?_, fun _ => ⟨by decide, by decide, fun _ => ?_, fun _ => ⟨fun _ => ?_, fun c => absurd rfl c⟩⟩⟩
      · skip
        refine cx_190_58 p0 p1 p2 p3 0 ⟨fun _ => ?_, fun c => absurd rfl c⟩
        refine cp_180b (by decide) (cp_r1 ?_)
        exact cq_badm (b := 1) (by rw [if_pos h0, if_neg h1]; exact ct_mkb (by decide)) (by decide) hn k
      · skip
        refine cx_190_58 p0 p1 p2 p3 0 ⟨fun _ => ?_, fun c => absurd rfl c⟩
        refine cp_180b (by decide) (cp_r1 ?_)
        exact cq_badm (b := 1) (by rw [if_pos h0, if_neg h1]; exact ct_mkb (by decide)) (by decide) hn k
      · skip
        refine cp_180b (by decide) (cp_r1 ?_)
        exact cq_badm (b := 1) (by rw [if_pos h0, if_neg h1]; exact ct_mkb (by decide)) (by decide) hn k
  · refine cx_190_29 p0 p1 p2 p3 ?_
    refine cp_174 (cp_r1 ?_)
    refine ⟨fun _ => ?_, fun _ => ⟨by decide, by decide, fun _ => ?_, fun _ => ⟨fun _ => ?_, fun c => absurd rfl c⟩⟩⟩
    · skip
      refine cx_190_58 p0 p1 p2 p3 0 ⟨fun _ => ?_, fun c => absurd rfl c⟩
      refine cp_180b (by decide) (cp_r1 ?_)
      exact cq_badm (b := 1) (by rw [if_neg h0]; exact ct_mkb (by decide)) (by decide) hn k
    · skip
      refine cx_190_58 p0 p1 p2 p3 0 ⟨fun _ => ?_, fun c => absurd rfl c⟩
      refine cp_180b (by decide) (cp_r1 ?_)
      exact cq_badm (b := 1) (by rw [if_neg h0]; exact ct_mkb (by decide)) (by decide) hn k
    · skip
      refine cp_180b (by decide) (cp_r1 ?_)
      exact cq_badm (b := 1) (by rw [if_neg h0]; exact ct_mkb (by decide)) (by decide) hn k
theorem cq_test (p0 : Int32) (p1 : Int32) (p2 : Int32) (hn : ck_n S N) (hs : ct_sm N) (k : ∀ S2 c, ck_n S2 (ct_mk N (if ct_is N p0 then (if ct_is N p1 then (if ct_is N p2 then 0 else 1) else 1) else 1) 2 13 (0) (-1) (-1) p0 p1 p2).2 → cf_W cW_n S S2 → ((ct_mk N (if ct_is N p0 then (if ct_is N p1 then (if ct_is N p2 then 0 else 1) else 1) else 1) 2 13 (0) (-1) (-1) p0 p1 p2).1 = 0 → S2.2 132 0 = (Int32.ofNat N.length).toInt64) → c ≤ 1 → K (.inl (some (.int (Int32.ofNat (ct_mk N (if ct_is N p0 then (if ct_is N p1 then (if ct_is N p2 then 0 else 1) else 1) else 1) 2 13 (0) (-1) (-1) p0 p1 p2).1)))) S2 c) : cm_At (am_XX L xs) (d + 6) 285 0 [some (.ref 0), some (.int p0), some (.int p1), some (.int p2), some (.ref 132), none] [] S K := by
  refine cx_285_0 p0 p1 p2 ?_
  refine cx_139_0 p0 p1 p2 ?_
  refine cp_157 hn (fun h0 => cp_r0 ?_) (fun h0 => cp_x0 ?_)
  · skip
    refine cp_157 hn (fun h1 => cp_r0 ?_) (fun h1 => cp_x0 ?_)
    · skip
      refine cp_157 hn (fun h2 => cp_r0 ?_) (fun h2 => cp_x0 ?_)
      · skip
        rw [if_pos h0, if_pos h1, if_pos h2] at k
        refine cp_163 (fl := 2) hn hs (ct_p2 h0) (ct_p2 h1) (ct_p2 h2) (fun e => cp_x1 ?_) (fun S2 e hS hf => cp_r1 ?_)
        · try dsimp only [cm_sh]
          refine cp_x1 ?_
          refine ⟨by decide, fun h => ?_, fun h => ?_, fun h => ?_⟩
          all_goals first
            | exact absurd h (by decide)
            | exact cq_bad (b := 2) e (by decide) hn k
        · try dsimp only [cm_sh]
          refine cp_r1 ?_
          exact cq_ok e hS hf k
      · try dsimp only [cm_sh]
        refine cp_x1 ?_
        refine ⟨by decide, fun h => ?_, fun h => ?_, fun h => ?_⟩
        all_goals first
          | exact absurd h (by decide)
          | exact cq_bad (b := 1) (by rw [if_pos h0, if_pos h1, if_neg h2]; exact ct_mkb (by decide)) (by decide) hn k
    · try dsimp only [cm_sh]
      refine cp_x1 ?_
      refine ⟨by decide, fun h => ?_, fun h => ?_, fun h => ?_⟩
      all_goals first
        | exact absurd h (by decide)
        | exact cq_bad (b := 1) (by rw [if_pos h0, if_neg h1]; exact ct_mkb (by decide)) (by decide) hn k
  · try dsimp only [cm_sh]
    refine cp_x1 ?_
    refine ⟨by decide, fun h => ?_, fun h => ?_, fun h => ?_⟩
    all_goals first
      | exact absurd h (by decide)
      | exact cq_bad (b := 1) (by rw [if_neg h0]; exact ct_mkb (by decide)) (by decide) hn k
theorem cs_test (p0 : Int32) (p1 : Int32) (p2 : Int32) (hn : cl_n S N) (hs : ct_sm N) (k : ∀ S2 r, cl_n S2 (ct_mk N (if ct_is N p0 then (if ct_is N p1 then (if ct_is N p2 then 0 else 1) else 1) else 1) 2 13 (0) (-1) (-1) p0 p1 p2).2 → S2.1 83 75 = Int32.ofNat (ct_mk N (if ct_is N p0 then (if ct_is N p1 then (if ct_is N p2 then 0 else 1) else 1) else 1) 2 13 (0) (-1) (-1) p0 p1 p2).1 → ((ct_mk N (if ct_is N p0 then (if ct_is N p1 then (if ct_is N p2 then 0 else 1) else 1) else 1) 2 13 (0) (-1) (-1) p0 p1 p2).1 = 0 → r = Int32.ofNat N.length) → cf_W cW_m S S2 → K (.inl (some (.int r))) S2 0) : cm_At (am_XX L xs) (d + 3) 191 0 [some (.ref 83), some (.int p0), some (.int p1), some (.int p2)] [] S K := by
  refine cx_191_0 p0 p1 p2 ?_
  refine cp_177 hn (fun h0 => cp_r1 ⟨fun c => absurd c (by decide), fun _ => ?_⟩) (fun h0 => cp_r1 ⟨fun _ => ?_, fun c => absurd rfl c⟩)
  · skip
    refine cp_177 hn (fun h1 => cp_r1 ⟨fun c => absurd c (by decide), fun _ => ?_⟩) (fun h1 => cp_r1 ⟨fun _ => ?_, fun c => absurd rfl c⟩)
    · skip
      refine cp_177 hn (fun h2 => cp_r1 ⟨fun c => absurd c (by decide), fun _ => ?_⟩) (fun h2 => cp_r1 ⟨fun _ => ?_, fun c => absurd rfl c⟩)
      · skip
        rw [if_pos h0, if_pos h1, if_pos h2] at k
        refine cp_180 (fl := 2) (kd := 13) (v := -1) (w := -1) hn hs (ct_p2 h0) (ct_p2 h1) (ct_p2 h2) rfl (by decide) rfl (fun S2 r a1 a2 a3 a4 => cp_r1 ?_)
        exact k S2 r a1 a2 a3 a4
      · skip
        refine cp_180b (by decide) (cp_r1 ?_)
        exact cq_badm (b := 1) (by rw [if_pos h0, if_pos h1, if_neg h2]; exact ct_mkb (by decide)) (by decide) hn k
    · skip
      refine cp_180b (by decide) (cp_r1 ?_)
      exact cq_badm (b := 1) (by rw [if_pos h0, if_neg h1]; exact ct_mkb (by decide)) (by decide) hn k
  · skip
    refine cp_180b (by decide) (cp_r1 ?_)
    exact cq_badm (b := 1) (by rw [if_neg h0]; exact ct_mkb (by decide)) (by decide) hn k
theorem cq_centre (p0 : Int32) (p1 : Int32) (hn : ck_n S N) (hs : ct_sm N) (k : ∀ S2 c, ck_n S2 (ct_mk N (if ct_is N p1 then (if 0 ≤ p0.toInt ∧ p0.toInt < 6 then 0 else 2) else 1) 3 14 (p0.toInt64) (-1) (-1) p1 (-1) (-1)).2 → cf_W cW_n S S2 → ((ct_mk N (if ct_is N p1 then (if 0 ≤ p0.toInt ∧ p0.toInt < 6 then 0 else 2) else 1) 3 14 (p0.toInt64) (-1) (-1) p1 (-1) (-1)).1 = 0 → S2.2 132 0 = (Int32.ofNat N.length).toInt64) → c ≤ 1 → K (.inl (some (.int (Int32.ofNat (ct_mk N (if ct_is N p1 then (if 0 ≤ p0.toInt ∧ p0.toInt < 6 then 0 else 2) else 1) 3 14 (p0.toInt64) (-1) (-1) p1 (-1) (-1)).1)))) S2 c) : cm_At (am_XX L xs) (d + 6) 286 0 [some (.ref 0), some (.int p0), some (.int p1), some (.ref 132), none] [] S K := by
  refine cx_286_0 p0 p1 ?_
  refine cx_140_0 p0 p1 ?_
  refine cp_157 hn (fun h0 => cp_r0 ?_) (fun h0 => cp_x0 ?_)
  · skip
    refine cp_161k (b := 6) rfl (fun h1 => cp_r0 ?_) (fun h1 => cp_x0 ?_)
    · skip
      rw [if_pos h0, if_pos h1] at k
      refine cp_163 (fl := 3) hn hs (ct_p2 h0) ct_p1 ct_p1 (fun e => cp_x1 ?_) (fun S2 e hS hf => cp_r1 ?_)
      · try dsimp only [cm_sh]
        refine cp_x1 ?_
        refine ⟨by decide, fun h => ?_, fun h => ?_, fun h => ?_⟩
        all_goals first
          | exact absurd h (by decide)
          | exact cq_bad (b := 3) e (by decide) hn k
      · try dsimp only [cm_sh]
        refine cp_r1 ?_
        exact cq_ok e hS hf k
    · try dsimp only [cm_sh]
      refine cp_x1 ?_
      refine ⟨by decide, fun h => ?_, fun h => ?_, fun h => ?_⟩
      all_goals first
        | exact absurd h (by decide)
        | exact cq_bad (b := 2) (by rw [if_pos h0, if_neg h1]; exact ct_mkb (by decide)) (by decide) hn k
  · try dsimp only [cm_sh]
    refine cp_x1 ?_
    refine ⟨by decide, fun h => ?_, fun h => ?_, fun h => ?_⟩
    all_goals first
      | exact absurd h (by decide)
      | exact cq_bad (b := 1) (by rw [if_neg h0]; exact ct_mkb (by decide)) (by decide) hn k
theorem cs_centre (p0 : Int32) (p1 : Int32) (hn : cl_n S N) (hs : ct_sm N) (k : ∀ S2 r, cl_n S2 (ct_mk N (if ct_is N p1 then (if 0 ≤ p0.toInt ∧ p0.toInt < 6 then 0 else 2) else 1) 3 14 (p0.toInt64) (-1) (-1) p1 (-1) (-1)).2 → S2.1 83 75 = Int32.ofNat (ct_mk N (if ct_is N p1 then (if 0 ≤ p0.toInt ∧ p0.toInt < 6 then 0 else 2) else 1) 3 14 (p0.toInt64) (-1) (-1) p1 (-1) (-1)).1 → ((ct_mk N (if ct_is N p1 then (if 0 ≤ p0.toInt ∧ p0.toInt < 6 then 0 else 2) else 1) 3 14 (p0.toInt64) (-1) (-1) p1 (-1) (-1)).1 = 0 → r = Int32.ofNat N.length) → cf_W cW_m S S2 → K (.inl (some (.int r))) S2 0) : cm_At (am_XX L xs) (d + 3) 192 0 [some (.ref 83), some (.int p0), some (.int p1)] [] S K := by
  refine cx_192_0 p0 p1 ?_
  refine cp_177 hn (fun h0 => cp_r1 ⟨fun c => absurd c (by decide), fun _ => ?_⟩) (fun h0 => cp_r1 ⟨fun _ => ?_, fun c => absurd rfl c⟩)
  · skip
    refine cp_174k (b := 6) rfl rfl (fun h1 => cp_r1 ⟨fun c => absurd c (by decide), fun _ => ?_⟩) (fun h1 => cp_r1 ⟨fun _ => ?_, fun c => absurd rfl c⟩)
    · skip
      rw [if_pos h0, if_pos h1] at k
      refine cp_180 (fl := 3) (kd := 14) (v := -1) (w := -1) hn hs (ct_p2 h0) ct_p1 ct_p1 rfl (by decide) rfl (fun S2 r a1 a2 a3 a4 => cp_r1 ?_)
      exact k S2 r a1 a2 a3 a4
    · skip
      refine cp_180b (by decide) (cp_r1 ?_)
      exact cq_badm (b := 2) (by rw [if_pos h0, if_neg h1]; exact ct_mkb (by decide)) (by decide) hn k
  · skip
    refine cp_180b (by decide) (cp_r1 ?_)
    exact cq_badm (b := 1) (by rw [if_neg h0]; exact ct_mkb (by decide)) (by decide) hn k
end CP32
