/-! ## 31 nodes: their list, what makes them on both sides -/
/-- kind, number, names, parts, weight -/
abbrev ct_E : Type := Int32 × Int64 × Int32 × Int32 × Int32 × Int32 × Int32 × Nat
/-- from S to S2 nothing changed but where W holds -/
def cf_W (W : Nat → Nat → Bool) (S S2 : cm_S) : Prop := ∀ b j, W b j = false → S2.1 b j = S.1 b j ∧ S2.2 b j = S.2 b j
theorem cf_rfl {W : Nat → Nat → Bool} {S : cm_S} : cf_W W S S := fun _ _ _ => ⟨rfl, rfl⟩
theorem cf_tr {W : Nat → Nat → Bool} {S S2 S3 : cm_S} (h : cf_W W S S2) (h2 : cf_W W S2 S3) : cf_W W S S3 := fun b j hb => ⟨(h2 b j hb).1.trans (h b j hb).1, (h2 b j hb).2.trans (h b j hb).2⟩
theorem cf_wI {W : Nat → Nat → Bool} {S : cm_S} {a k : Nat} {x : Int32} (h : W a k = true) : cf_W W S (cm_wI S a k x) := fun b j hb => ⟨by
  rw [cp_wI1]
  exact if_neg (fun hc => by rw [hc.1, hc.2, h] at hb; cases hb), rfl⟩
theorem cf_wJ {W : Nat → Nat → Bool} {S : cm_S} {a k : Nat} {x : Int64} (h : W a k = true) : cf_W W S (cm_wJ S a k x) := fun b j hb => ⟨rfl, by
  rw [cp_wJ2]
  exact if_neg (fun hc => by rw [hc.1, hc.2, h] at hb; cases hb)⟩
theorem cf_mono {W W2 : Nat → Nat → Bool} {S S2 : cm_S} (h : cf_W W S S2) (hw : ∀ b j, W b j = true → W2 b j = true) : cf_W W2 S S2 := fun b j hb => h b j (by
  cases hc : W b j with
  | false => rfl
  | true => rw [hw b j hc] at hb; cases hb)
/-- the weight of a part -/
def ct_w (N : List ct_E) (p : Int32) : Nat := if p = -1 then 0 else match N[p.toNatClampNeg]? with
  | some e => e.2.2.2.2.2.2.2
  | none => 0
abbrev ct_is (N : List ct_E) (p : Int32) : Prop := 0 ≤ p.toInt ∧ p.toInt < (N.length : Int)
theorem ct_is_of {N : List ct_E} {p : Int32} (h : ct_is N p) : ∃ i, i < N.length ∧ p = Int32.ofNat i ∧ i < 2147483648 := by
  obtain ⟨i, h1, h2, h3⟩ := cp_of h.1
  exact ⟨i, by have := h.2; omega, h1, h3⟩
/-- the name that the model keeps -/
def ct_nm (k v w : Int32) : Int32 := if k = 12 then 26 * v + w else if v = -1 then 0 else v
def ck_n (S : cm_S) (N : List ct_E) : Prop := N.length ≤ 120 ∧ S.1 1 2 = Int32.ofNat N.length ∧ ∀ (i : Nat) (e : ct_E), N[i]? = some e → S.1 3 i = e.1 ∧ S.2 6 i = e.2.1 ∧ S.1 4 i = e.2.2.1 ∧ S.1 5 i = e.2.2.2.1 ∧ S.1 8 (3 * i) = e.2.2.2.2.1 ∧ S.1 8 (3 * i + 1) = e.2.2.2.2.2.1 ∧ S.1 8 (3 * i + 2) = e.2.2.2.2.2.2.1 ∧ S.1 7 i = Int32.ofNat e.2.2.2.2.2.2.2
def cl_n (S : cm_S) (N : List ct_E) : Prop := N.length ≤ 120 ∧ S.1 83 0 = Int32.ofNat N.length ∧ ∀ (i : Nat) (e : ct_E), N[i]? = some e → S.1 84 i = e.1 ∧ S.2 85 i = e.2.1 ∧ S.1 86 i = ct_nm e.1 e.2.2.1 e.2.2.2.1 ∧ S.1 87 i = e.2.2.2.2.1 ∧ S.1 88 i = e.2.2.2.2.2.1 ∧ S.1 89 i = e.2.2.2.2.2.2.1 ∧ S.1 90 i = Int32.ofNat e.2.2.2.2.2.2.2
/-- all weights are small -/
def ct_sm (N : List ct_E) : Prop := ∀ (i : Nat) (e : ct_E), N[i]? = some e → e.2.2.2.2.2.2.2 ≤ 80
def ct_p (N : List ct_E) (p : Int32) : Prop := p = -1 ∨ ct_is N p
theorem ct_w_le {N : List ct_E} (hs : ct_sm N) (p : Int32) : ct_w N p ≤ 80 := by
  unfold ct_w
  split
  · omega
  · split
    · next e he => exact hs _ _ he
    · omega
theorem ck_w {S : cm_S} {N : List ct_E} {p : Int32} (hn : ck_n S N) (hp : ct_p N p) : cp_g 120 (S.1 7) 0 p = Int32.ofNat (ct_w N p) := by
  unfold ct_w
  rcases hp with rfl | hp
  · rw [cp_g_m1, if_pos rfl]; rfl
  · obtain ⟨i, hi, rfl, hl⟩ := ct_is_of hp
    rw [if_neg (cp_m1 hl), cp_cl hl, List.getElem?_eq_getElem hi]
    rw [cp_g_at (by have := hn.1; omega) (by decide)]
    exact (hn.2.2 i _ (List.getElem?_eq_getElem hi)).2.2.2.2.2.2.2
theorem ct_get_ap {N : List ct_E} {e e2 : ct_E} {i : Nat} (h : (N ++ [e])[i]? = some e2) : (i < N.length ∧ N[i]? = some e2) ∨ (i = N.length ∧ e2 = e) := by
  rw [List.getElem?_append] at h
  split at h
  · next hi => exact Or.inl ⟨hi, h⟩
  · next hi =>
    refine Or.inr ?_
    cases hj : i - N.length with
    | zero => rw [hj] at h; simp at h; exact ⟨by omega, h.symm⟩
    | succ j => rw [hj] at h; simp at h
/-- what a making does: its code (0: made) and the list then -/
def ct_mk (N : List ct_E) (bad full : Nat) (k : Int32) (n : Int64) (v w f s t : Int32) : Nat × List ct_E :=
  if bad = 0 then (if 120 ≤ N.length ∨ 80 < 1 + ct_w N f + ct_w N s + ct_w N t then (full, N) else (0, N ++ [(k, n, v, w, f, s, t, 1 + ct_w N f + ct_w N s + ct_w N t)])) else (bad, N)
def cW_n (b _j : Nat) : Bool := decide (1 ≤ b ∧ b ≤ 8 ∨ b = 132)
def cW_m (b j : Nat) : Bool := decide (84 ≤ b ∧ b ≤ 90 ∨ b = 83 ∧ (j = 0 ∨ j = 75))
theorem cp_put_at {S : cm_S} {a i : Nat} {k v w : Int32} {n : Int64} (h : i < cm_cap a) (h2 : i < 2147483648) : cp_put S a (Int32.ofNat i) k v w n = cm_wI (cm_wJ (cm_wI (cm_wI (cm_wI S (a + 1) i k) (a + 2) i v) (a + 3) i w) (a + 4) i n) (a + 5) i 1 := by
  unfold cp_put
  rw [cp_tI h2, if_pos (by omega)]
  rfl
section CP31
variable {L : Nat} {xs : Nat → Int32} {d : Nat} {S : cm_S} {K : cm_K} {N : List ct_E} {p : Int32}
theorem cp_157 (hn : ck_n S N) (k1 : ct_is N p → K (.inl none) S 0) (k2 : ¬ ct_is N p → K (.inr 0) S 1) : cm_At (am_XX L xs) (d + 1) 157 0 [some (.ref 0), some (.int p)] [] S K := by
  refine cx_157_0 p ⟨fun h => k2 ?_, fun h => ?_⟩
  · unfold ct_is; rw [cp_lt0] at h; omega
  · rintro _ rfl
    rw [hn.2.1]
    have hl := hn.1
    rw [cp_lt0] at h
    refine ⟨fun h2 => k1 ?_, fun h2 => k2 ?_⟩
    · rw [cp_ltn (by omega)] at h2; unfold ct_is; omega
    · rw [cp_ltn (by omega)] at h2; unfold ct_is; omega
theorem cp_161 {q : Int32} (k1 : 0 ≤ p.toInt ∧ p.toInt < q.toInt → K (.inl none) S 0) (k2 : ¬ (0 ≤ p.toInt ∧ p.toInt < q.toInt) → K (.inr 1) S 1) : cm_At (am_XX L xs) (d + 1) 161 0 [some (.int p), some (.int q)] [] S K := by
  refine cx_161_0 p q ⟨fun h => k2 ?_, fun h => ⟨fun h2 => k1 ?_, fun h2 => k2 ?_⟩⟩
  · rw [cp_lt0] at h; omega
  · rw [cp_lt0] at h; rw [Int32.lt_iff_toInt_lt] at h2; omega
  · rw [Int32.lt_iff_toInt_lt] at h2; omega
theorem cp_74 (hn : ck_n S N) (hp : ct_p N p) (k : K (.inl (some (.int (Int32.ofNat (ct_w N p))))) S 0) : cm_At (am_XX L xs) (d + 2) 74 0 [some (.ref 1), some (.int p)] [] S K := by
  refine cx_74_0 p ?_
  refine cp_12 (by decide) (cp_r1 ?_)
  rw [← ck_w hn hp] at k
  exact k
/-- the class makes a node -/
theorem cp_163 {kd v w f s t : Int32} {n : Int64} {fl : Nat} (hn : ck_n S N) (hs : ct_sm N) (hf : ct_p N f) (hfs : ct_p N s) (ht : ct_p N t)
    (k1 : ct_mk N 0 fl kd n v w f s t = (fl, N) → K (.inr 2) S 1)
    (k2 : ∀ S2, (ct_mk N 0 fl kd n v w f s t).1 = 0 → ck_n S2 (ct_mk N 0 fl kd n v w f s t).2 → cf_W cW_n S S2 → K (.inl (some (.int (Int32.ofNat N.length)))) S2 0) :
    cm_At (am_XX L xs) (d + 4) 163 0 [some (.ref 0), some (.int kd), some (.int v), some (.int w), some (.long n), none, some (.int f), some (.int s), some (.int t), none] [] S K := by
  have hl := hn.1
  have w1 := ct_w_le hs f
  have w2 := ct_w_le hs s
  have w3 := ct_w_le hs t
  refine cx_163_0 kd v w n f s t ?_
  refine cp_74 hn hf (cp_r1 ?_)
  refine cp_74 hn hfs (cp_r1 ?_)
  refine cp_74 hn ht (cp_r1 ?_)
  rintro _ rfl
  rw [hn.2.1]
  rw [show (120 : Int32) = Int32.ofNat 120 from rfl, show (80 : Int32) = Int32.ofNat 80 from rfl, show (1 : Int32) = Int32.ofNat 1 from rfl]
  simp only [cp_ad]
  refine ⟨fun h1 => ⟨fun h2 => ?_, fun h2 => ?_⟩, fun h1 => ?_⟩
  · rw [cp_lt (by omega) (by omega)] at h2
    have e : ct_mk N 0 fl kd n v w f s t = (fl, N) := by unfold ct_mk; rw [if_pos rfl, if_pos (Or.inr h2)]
    exact k1 e
  · rw [cp_lt (by omega) (by omega)] at h1 h2
    have e : ct_mk N 0 fl kd n v w f s t = (0, N ++ [(kd, n, v, w, f, s, t, 1 + ct_w N f + ct_w N s + ct_w N t)]) := by unfold ct_mk; rw [if_pos rfl, if_neg (by omega)]
    rw [e] at k2
    refine cx_76_0 f s t ?_
    rintro _ rfl
    rw [hn.2.1, show (3 : Int32) = Int32.ofNat 3 from rfl, cp_ml]
    refine cp_167 (by decide) (cp_r0 ?_)
    rw [cp_w_at (show 3 * N.length < cm_rl 8 by show 3 * N.length < 360; omega) (by decide +kernel)]
    rintro _ rfl
    rw [cp_wI1, if_neg (by omega), hn.2.1, cp_ml, show (1 : Int32) = Int32.ofNat 1 from rfl, cp_ad]
    refine cp_167 (by decide) (cp_r0 ?_)
    rw [cp_w_at (show 3 * N.length + 1 < cm_rl 8 by show 3 * N.length + 1 < 360; omega) (by decide +kernel)]
    rintro _ rfl
    rw [cp_wI1, if_neg (by omega), cp_wI1, if_neg (by omega), hn.2.1, cp_ml, show (2 : Int32) = Int32.ofNat 2 from rfl, cp_ad]
    refine cp_167 (by decide) (cp_r0 ?_)
    rw [cp_w_at (show 3 * N.length + 2 < cm_rl 8 by show 3 * N.length + 2 < 360; omega) (by decide +kernel)]
    dsimp only [cm_sh]
    refine cp_r0 ?_
    refine cx_77_0 kd v w n _ ?_
    rintro _ rfl
    simp only [cp_wI1]
    rw [if_neg (by omega), if_neg (by omega), if_neg (by omega), hn.2.1]
    refine cp_19 (by decide) (cp_r0 ?_)
    rw [cp_put_at (show N.length < cm_cap 2 by rw [show cm_cap 2 = 120 from rfl]; omega) (by omega)]
    refine cp_167 (by decide) (cp_r0 ?_)
    rw [cp_w_at (show N.length < cm_rl 7 by show N.length < 120; omega) (by decide +kernel)]
    rintro _ rfl
    rintro _ rfl
    dsimp only [cm_sh]
    refine cp_r1 ?_
    refine k2 _ rfl ⟨?_, ?_, ?_⟩ ?_
    · rw [List.length_append, List.length_singleton]; omega
    · simp [cp_wI1, cp_wJ1, hn.2.1]
    · intro i e2 he
      rcases ct_get_ap he with ⟨hi, he3⟩ | ⟨hi, he3⟩
      · obtain ⟨q1, q2, q3, q4, q5, q6, q7, q8⟩ := hn.2.2 i e2 he3
        have hne : ¬ i = N.length := by omega
        refine ⟨?_, ?_, ?_, ?_, ?_, ?_, ?_, ?_⟩
        all_goals simp only [cp_wI1, cp_wI2, cp_wJ1, cp_wJ2]
        all_goals repeat rw [if_neg (by omega)]
        all_goals assumption
      · subst hi
        subst he3
        refine ⟨?_, ?_, ?_, ?_, ?_, ?_, ?_, ?_⟩
        all_goals simp [cp_wI1, cp_wI2, cp_wJ1, cp_wJ2]
        all_goals omega
    · intro b j hb
      unfold cW_n at hb
      have hb := of_decide_eq_false hb
      refine ⟨?_, ?_⟩
      · simp only [cp_wI1, cp_wJ1]
        repeat rw [if_neg (by omega)]
      · simp only [cp_wI2, cp_wJ2]
        rw [if_neg (by omega)]
  · rw [cp_lt (by omega) (by omega)] at h1
    have e : ct_mk N 0 fl kd n v w f s t = (fl, N) := by unfold ct_mk; rw [if_pos rfl, if_pos (Or.inl (by omega))]
    exact k1 e
/-- the model: a part's weight, and a number within bounds -/
theorem cp_174 {q r : Int32} (k : K (.inl (some (.int (if q.toInt ≤ p.toInt ∧ p.toInt ≤ r.toInt then 1 else 0)))) S 0) : cm_At (am_XX L xs) (d + 1) 174 0 [some (.int p), some (.int q), some (.int r)] [] S K := by
  refine cx_174_0 p q r ⟨fun h => ⟨Or.inl rfl, ?_⟩, fun h => ⟨fun h2 => ⟨Or.inl rfl, ?_⟩, fun h2 => ⟨Or.inr rfl, ?_⟩⟩⟩
  · rw [Int32.lt_iff_toInt_lt] at h
    rw [if_neg (by omega)] at k; exact k
  · rw [Int32.lt_iff_toInt_lt] at h2
    rw [if_neg (by omega)] at k; exact k
  · rw [Int32.lt_iff_toInt_lt] at h h2
    rw [if_pos (by omega)] at k; exact k
theorem cp_173 (k : K (.inl (some (.int (if p = 0 then 1 else 0)))) (cm_wI S 83 75 p) 0) : cm_At (am_XX L xs) (d + 1) 173 0 [some (.ref 83), some (.int p)] [] S K := by
  refine cx_173_0 p ?_
  rintro _ rfl
  refine ⟨fun h => ⟨Or.inr rfl, ?_⟩, fun h => ⟨Or.inl rfl, ?_⟩⟩
  · rw [if_pos h] at k; exact k
  · rw [if_neg h] at k; exact k
theorem cp_172 (k : K (.inl (some (.int (S.1 83 75)))) S 0) : cm_At (am_XX L xs) (d + 1) 172 0 [some (.ref 83)] [] S K := by
  refine cx_172_0 ?_
  rintro _ rfl
  exact k
theorem cp_175 (k1 : 0 ≤ p.toInt ∧ p.toInt < 26 → K (.inl (some (.int 1))) S 0) (k2 : ¬ (0 ≤ p.toInt ∧ p.toInt < 26) → K (.inl (some (.int 0))) S 0) : cm_At (am_XX L xs) (d + 2) 175 0 [some (.int p)] [] S K := by
  refine cx_175_0 p ?_
  refine cp_174 (cp_r1 ?_)
  have e : ((0 : Int32).toInt ≤ p.toInt ∧ p.toInt ≤ (25 : Int32).toInt) ↔ (0 ≤ p.toInt ∧ p.toInt < 26) := by
    rw [show (0 : Int32).toInt = 0 from rfl, show (25 : Int32).toInt = 25 from rfl]; omega
  by_cases h : 0 ≤ p.toInt ∧ p.toInt < 26
  · rw [if_pos (e.mpr h)]
    exact ⟨Or.inr rfl, k1 h⟩
  · rw [if_neg (fun hc => h (e.mp hc))]
    exact ⟨Or.inl rfl, k2 h⟩
theorem cp_176 (k1 : 0 ≤ p.toInt ∧ p.toInt < 8 → K (.inl (some (.int 1))) S 0) (k2 : ¬ (0 ≤ p.toInt ∧ p.toInt < 8) → K (.inl (some (.int 0))) S 0) : cm_At (am_XX L xs) (d + 2) 176 0 [some (.int p)] [] S K := by
  refine cx_176_0 p ?_
  refine cp_174 (cp_r1 ?_)
  have e : ((0 : Int32).toInt ≤ p.toInt ∧ p.toInt ≤ (7 : Int32).toInt) ↔ (0 ≤ p.toInt ∧ p.toInt < 8) := by
    rw [show (0 : Int32).toInt = 0 from rfl, show (7 : Int32).toInt = 7 from rfl]; omega
  by_cases h : 0 ≤ p.toInt ∧ p.toInt < 8
  · rw [if_pos (e.mpr h)]
    exact ⟨Or.inr rfl, k1 h⟩
  · rw [if_neg (fun hc => h (e.mp hc))]
    exact ⟨Or.inl rfl, k2 h⟩
theorem cp_177 (hn : cl_n S N) (k1 : ct_is N p → K (.inl (some (.int 1))) S 0) (k2 : ¬ ct_is N p → K (.inl (some (.int 0))) S 0) : cm_At (am_XX L xs) (d + 2) 177 0 [some (.ref 83), some (.int p)] [] S K := by
  have hl := hn.1
  refine cx_177_0 p ?_
  rintro _ rfl
  refine cp_174 (cp_r1 ?_)
  have e : (0 : Int32).toInt ≤ p.toInt ∧ p.toInt ≤ (S.1 83 0 - 1).toInt ↔ ct_is N p := by
    rw [hn.2.1, show (0 : Int32).toInt = 0 from rfl]
    unfold ct_is
    rcases Nat.eq_zero_or_pos N.length with h0 | h0
    · rw [h0, show (Int32.ofNat 0 - 1 : Int32).toInt = -1 from rfl]; omega
    · rw [show (1 : Int32) = Int32.ofNat 1 from rfl, cp_sb h0, cp_tI (by omega)]; omega
  by_cases h : ct_is N p
  · rw [if_pos (e.mpr h)]
    exact ⟨Or.inr rfl, k1 h⟩
  · rw [if_neg (fun hc => h (e.mp hc))]
    exact ⟨Or.inl rfl, k2 h⟩
theorem cp_179 (hn : cl_n S N) (hp : ct_p N p) (k : K (.inl (some (.int (Int32.ofNat (ct_w N p))))) S 0) : cm_At (am_XX L xs) (d + 1) 179 0 [some (.ref 83), some (.int p)] [] S K := by
  have hl := hn.1
  rcases hp with rfl | hp
  · refine cx_179_0 _ ⟨fun _ => ?_, fun h => absurd rfl h⟩
    unfold ct_w at k
    rw [if_pos rfl] at k
    exact k
  · obtain ⟨i, hi, rfl, hb⟩ := ct_is_of hp
    refine cx_179_0 _ ⟨fun h => absurd h (cp_m1 hb), fun _ => ⟨cp_in (by omega) (by decide), ?_⟩⟩
    rintro _ rfl
    unfold ct_w at k
    rw [if_neg (cp_m1 hb), cp_cl hb, List.getElem?_eq_getElem hi] at k
    rw [cp_cl hb, (hn.2.2 i _ (List.getElem?_eq_getElem hi)).2.2.2.2.2.2]
    exact k
/-- the model makes a node, or doesn't -/
theorem cp_180 {full kd v w nm f s t : Int32} {n : Int64} {fl : Nat} (hn : cl_n S N) (hs : ct_sm N) (hf : ct_p N f) (hfs : ct_p N s) (ht : ct_p N t) (hfl : full = Int32.ofNat fl) (hfl0 : 0 < fl ∧ fl < 4) (hnm : nm = ct_nm kd v w)
    (k : ∀ S2 r, cl_n S2 (ct_mk N 0 fl kd n v w f s t).2 → S2.1 83 75 = Int32.ofNat (ct_mk N 0 fl kd n v w f s t).1 → ((ct_mk N 0 fl kd n v w f s t).1 = 0 → r = Int32.ofNat N.length) → cf_W cW_m S S2 → K (.inl (some (.int r))) S2 0) :
    cm_At (am_XX L xs) (d + 2) 180 0 [some (.ref 83), some (.int 0), some (.int full), some (.int kd), some (.long n), none, some (.int nm), some (.int f), some (.int s), some (.int t), none] [] S K := by
  have hl := hn.1
  have w1 := ct_w_le hs f
  have w2 := ct_w_le hs s
  have w3 := ct_w_le hs t
  have hfi : ¬ full = 0 := by rw [hfl, show (0 : Int32) = Int32.ofNat 0 from rfl, cp_inj (by omega) (by omega)]; omega
  have bad : ∀ {S2 : cm_S}, (120 ≤ N.length ∨ 80 < 1 + ct_w N f + ct_w N s + ct_w N t) → S2 = cm_wI S 83 75 full → K (.inl (some (.int 0))) S2 0 := by
    rintro _ hc rfl
    have e : ct_mk N 0 fl kd n v w f s t = (fl, N) := by unfold ct_mk; rw [if_pos rfl, if_pos hc]
    rw [e] at k
    refine k _ 0 ⟨hl, ?_, ?_⟩ ?_ (fun h => absurd h (by show ¬ fl = 0; omega)) (cf_wI rfl)
    · rw [cp_wI1, if_neg (by omega)]; exact hn.2.1
    · intro i e2 he
      simp only [cp_wI1, cp_wI2]
      repeat rw [if_neg (by omega)]
      exact hn.2.2 i e2 he
    · rw [cp_wI1, if_pos ⟨rfl, rfl⟩, hfl]
  refine cx_180_0 0 full kd n nm f s t ⟨fun _ => ?_, fun h => absurd rfl h⟩
  refine cp_179 hn hf (cp_r1 ?_)
  refine cp_179 hn hfs (cp_r1 ?_)
  refine cp_179 hn ht (cp_r1 ?_)
  refine ⟨fun _ => ?_, fun h => absurd rfl h⟩
  rintro _ rfl
  rw [hn.2.1]
  rw [show (120 : Int32) = Int32.ofNat 120 from rfl, show (80 : Int32) = Int32.ofNat 80 from rfl, show (1 : Int32) = Int32.ofNat 1 from rfl]
  simp only [cp_ad]
  refine ⟨fun h1 => ?_, fun h1 => ⟨fun h2 => ?_, fun h2 => ?_⟩⟩
  · rw [cp_inj (by omega) (by omega)] at h1
    refine cp_173 (cp_r1 ?_)
    rw [if_neg hfi]
    exact ⟨fun _ => bad (Or.inl (by omega)) rfl, fun h => absurd rfl h⟩
  · rw [cp_lt (by omega) (by omega)] at h2
    refine cp_173 (cp_r1 ?_)
    rw [if_neg hfi]
    exact ⟨fun _ => bad (Or.inr h2) rfl, fun h => absurd rfl h⟩
  · rw [cp_inj (by omega) (by omega)] at h1
    rw [cp_lt (by omega) (by omega)] at h2
    have e : ct_mk N 0 fl kd n v w f s t = (0, N ++ [(kd, n, v, w, f, s, t, 1 + ct_w N f + ct_w N s + ct_w N t)]) := by unfold ct_mk; rw [if_pos rfl, if_neg (by omega)]
    rw [e] at k
    refine cp_173 (cp_r1 ?_)
    rw [if_pos rfl]
    refine ⟨fun h => absurd h (by decide), fun _ => ?_⟩
    have hi : ∀ {m : Nat}, am_in (Int32.ofNat N.length) 120 := fun {_} => cp_in (by omega) (by decide)
    rintro _ rfl
    rw [cp_wI1, if_neg (by omega), hn.2.1, cp_cl (by omega)]
    refine ⟨hi (m := 0), ?_⟩
    rintro _ rfl
    rintro _ rfl
    simp only [cp_wI1, cp_wJ1, show ¬ (83 : Nat) = 84 by decide, show ¬ (0 : Nat) = 75 by decide, false_and, and_false, if_false, hn.2.1]
    rw [cp_cl (by omega)]
    refine ⟨hi (m := 0), ?_⟩
    rintro _ rfl
    rintro _ rfl
    simp only [cp_wI1, cp_wJ1, show ¬ (83 : Nat) = 84 by decide, show ¬ (0 : Nat) = 75 by decide, false_and, and_false, if_false, hn.2.1]
    rw [cp_cl (by omega)]
    refine ⟨hi (m := 0), ?_⟩
    rintro _ rfl
    rintro _ rfl
    simp only [cp_wI1, cp_wJ1, show ¬ (83 : Nat) = 84 by decide, show ¬ (83 : Nat) = 86 by decide, show ¬ (0 : Nat) = 75 by decide, false_and, and_false, if_false, hn.2.1]
    rw [cp_cl (by omega)]
    refine ⟨hi (m := 0), ?_⟩
    rintro _ rfl
    rintro _ rfl
    simp only [cp_wI1, cp_wJ1, show ¬ (83 : Nat) = 84 by decide, show ¬ (83 : Nat) = 86 by decide, show ¬ (83 : Nat) = 87 by decide, show ¬ (0 : Nat) = 75 by decide, false_and, and_false, if_false, hn.2.1]
    rw [cp_cl (by omega)]
    refine ⟨hi (m := 0), ?_⟩
    rintro _ rfl
    rintro _ rfl
    simp only [cp_wI1, cp_wJ1, show ¬ (83 : Nat) = 84 by decide, show ¬ (83 : Nat) = 86 by decide, show ¬ (83 : Nat) = 87 by decide, show ¬ (83 : Nat) = 88 by decide, show ¬ (0 : Nat) = 75 by decide, false_and, and_false, if_false, hn.2.1]
    rw [cp_cl (by omega)]
    refine ⟨hi (m := 0), ?_⟩
    rintro _ rfl
    rintro _ rfl
    simp only [cp_wI1, cp_wJ1, show ¬ (83 : Nat) = 84 by decide, show ¬ (83 : Nat) = 86 by decide, show ¬ (83 : Nat) = 87 by decide, show ¬ (83 : Nat) = 88 by decide, show ¬ (83 : Nat) = 89 by decide, show ¬ (0 : Nat) = 75 by decide, false_and, and_false, if_false, hn.2.1]
    rw [cp_cl (by omega)]
    refine ⟨hi (m := 0), ?_⟩
    rintro _ rfl
    rintro _ rfl
    rintro _ rfl
    rintro _ rfl
    refine k _ _ ⟨?_, ?_, ?_⟩ ?_ ?_ ?_
    · rw [List.length_append, List.length_singleton]; omega
    · simp [cp_wI1, cp_wJ1, hn.2.1]
    · intro i e2 he
      rcases ct_get_ap he with ⟨hi, he3⟩ | ⟨hi, he3⟩
      · obtain ⟨q1, q2, q3, q4, q5, q6, q7⟩ := hn.2.2 i e2 he3
        have hne : ¬ i = N.length := by omega
        refine ⟨?_, ?_, ?_, ?_, ?_, ?_, ?_⟩
        all_goals simp [cp_wI1, cp_wI2, cp_wJ1, cp_wJ2, hne, q1, q2, q3, q4, q5, q6, q7]
      · subst hi
        subst he3
        refine ⟨?_, ?_, ?_, ?_, ?_, ?_, ?_⟩
        all_goals simp [cp_wI1, cp_wI2, cp_wJ1, cp_wJ2, hnm]
    · simp [cp_wI1, cp_wJ1]
    · intro _
      simp [cp_wI1, cp_wJ1, hn.2.1]
    · intro b j hb
      unfold cW_m at hb
      have hb := of_decide_eq_false hb
      refine ⟨?_, ?_⟩
      · simp only [cp_wI1, cp_wJ1]
        repeat rw [if_neg (by omega)]
      · simp only [cp_wI2, cp_wJ2]
        rw [if_neg (by omega)]
theorem cp_180b {bad full kd nm f s t : Int32} {n : Int64} (hb : bad = 1 ∨ bad = 2) (k : K (.inl (some (.int 0))) (cm_wI S 83 75 bad) 0) :
    cm_At (am_XX L xs) (d + 2) 180 0 [some (.ref 83), some (.int bad), some (.int full), some (.int kd), some (.long n), none, some (.int nm), some (.int f), some (.int s), some (.int t), none] [] S K := by
  have h0 : ¬ bad = 0 := by rcases hb with rfl | rfl <;> decide
  refine cx_180_0 bad full kd n nm f s t ⟨fun h => absurd h h0, fun _ => ⟨fun h => absurd h h0, fun _ => ?_⟩⟩
  refine cp_173 (cp_r1 ?_)
  rw [if_neg h0]
  exact ⟨fun _ => k, fun h => absurd rfl h⟩
end CP31
