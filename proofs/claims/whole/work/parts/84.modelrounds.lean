/-! ## 84 the model's rounds -/
/-- what is kept of a definition -/
def cv_fg (S : cm_S) (V : Nat → ct_T) (g : Nat) : Prop := S.1 108 g = Int32.ofNat (cu_M V g) ∧ (∀ k, k < cu_M V g → S.1 109 (4 * g + k) = cu_pn k (V g)) ∧ (¬ V g = .leaf → ∃ fq, cl_t S (cu_in 4 (V g)) (S.1 110 g) fq)
theorem cv_fg_cf {W : Nat → Nat → Bool} {S S2 : cm_S} {V : Nat → ct_T} {g : Nat} (hw : ct_wf (V g)) (hc : cf_W W S S2) (h1 : W 108 g = false) (h2 : ∀ k, k < 4 → W 109 (4 * g + k) = false) (h3 : W 110 g = false) (h4 : ∀ b j, 92 ≤ b → b ≤ 98 → W b j = false) (h : cv_fg S V g) : cv_fg S2 V g := by
  have hM := cu_M_le (U := V) (g := g)
  refine ⟨(hc _ _ h1).1.trans h.1, fun k hk => (hc _ _ (h2 k (by omega))).1.trans (h.2.1 k hk), fun hn => ?_⟩
  obtain ⟨fq, hq⟩ := h.2.2 hn
  rw [(hc _ _ h3).1]
  exact ⟨fq, cl_t_fr hc h4 (cu_in_wf 4 _ hw) hq⟩
def cv_nq (S : cm_S) (V : Nat → ct_T) (Q : Nat → Nat → Bool) (g : Nat) : Prop := ∀ k, k < cu_M V g → S.1 111 (4 * g + k) = if Q g k = true then 1 else 0
/-- what the definitions are on the model's side -/
def cv_v (S : cm_S) (T V : Nat → ct_T) : Prop := cl_i S T ∧ ∀ g, g < 8 → ct_wf (V g) ∧ (T g = .leaf ↔ V g = .leaf) ∧ ct_nus (V g) ∧ cu_ol (V g) ∧ ct_nws (V g) ∧ ct_sz (V g) ≤ 150 ∧ (¬ V g = .leaf → ∃ fp, cl_t S (V g) (S.1 103 (8 + g)) fp)
theorem cv_v_cf {W : Nat → Nat → Bool} {S S2 : cm_S} {T V : Nat → ct_T} (hc : cf_W W S S2) (h1 : ∀ j, W 102 j = false) (h2 : ∀ j, W 103 j = false) (h4 : ∀ b j, 92 ≤ b → b ≤ 98 → W b j = false) (h : cv_v S T V) : cv_v S2 T V := by
  refine ⟨cl_i_cf hc h1 h.1, fun g hg => ?_⟩
  obtain ⟨v1, v2, v3, v4, v5, v6, v7⟩ := h.2 g hg
  refine ⟨v1, v2, v3, v4, v5, v6, fun hn => ?_⟩
  obtain ⟨fp, hp⟩ := v7 hn
  rw [(hc _ _ (h2 _)).1]
  exact ⟨fp, cl_t_fr hc h4 v1 hp⟩
theorem cu_pn_in : ∀ (n : Nat) (t : ct_T), ct_wf t → ∀ k, k < ct_pd n t → ∃ e, e ∈ ct_fl t ∧ e.1 = 4 ∧ cu_pn k t = e.2.2.1
  | 0, t, _, k, hk => absurd hk (by show ¬ k < 0; omega)
  | n + 1, t, hw, k, hk => by
    have hn : ¬ t = .leaf := fun hc => by rw [hc, ct_pd_lf] at hk; omega
    obtain ⟨e, a, b, c, rfl⟩ := ct_cs hw hn
    rw [ct_pd_nd] at hk
    by_cases k4 : e.1 = 4
    · rw [if_pos k4] at hk
      rcases k with _ | k
      · exact ⟨e, List.mem_cons_self, k4, rfl⟩
      · obtain ⟨e2, h1, h2, h3⟩ := cu_pn_in n a (ct_wf_nd hw).2.2.2.2.1 k (by omega)
        exact ⟨e2, List.mem_cons_of_mem _ (List.mem_append_left _ h1), h2, h3⟩
    · rw [if_neg k4] at hk; omega
theorem cu_pn_v {t : ct_T} (hw : ct_wf t) (hnw : ct_nws t) (hol : cu_ol t) {k : Nat} (hk : k < ct_pd 4 t) : cu_pn k t = Int32.ofNat (cu_pn k t).toNatClampNeg ∧ (cu_pn k t).toNatClampNeg < 320 := by
  obtain ⟨e, h1, h2, h3⟩ := cu_pn_in 4 t hw k hk
  have h4 := hol e h1
  have h5 := ((hnw e h1).1 (Or.inr (Or.inl h2))).1
  rw [h3]
  rcases h4 with h4 | h4
  · exact absurd h4 h5
  · obtain ⟨v, hv, h6, h7⟩ := cp_of h4.1
    rw [hv, cp_cl h7]
    exact ⟨rfl, by omega⟩
theorem cu_in_sz : ∀ (n : Nat) (t : ct_T), ct_wf t → ct_sz (cu_in n t) ≤ ct_sz t
  | 0, t, _ => Nat.le_refl _
  | n + 1, t, hw => by
    by_cases hn : t = .leaf
    · rw [hn, cu_in_lf]; exact Nat.le_refl _
    · obtain ⟨e, a, b, c, rfl⟩ := ct_cs hw hn
      rw [cu_in_nd]
      split
      · have := cu_in_sz n a (ct_wf_nd hw).2.2.2.2.1
        rw [ct_sz_nd]; omega
      · exact Nat.le_refl _
theorem cu_in_lf2 : ∀ (n : Nat) (t : ct_T), ct_wf t → ¬ t = .leaf → ¬ cu_in n t = .leaf
  | 0, t, _, hn => hn
  | n + 1, t, hw, hn => by
    obtain ⟨e, a, b, c, rfl⟩ := ct_cs hw hn
    rw [cu_in_nd]
    split
    · next k4 => exact cu_in_lf2 n a (ct_wf_nd hw).2.2.2.2.1 (ct_q1 hw (Or.inl k4)).1
    · exact hn
/-- a parameter is found not to be needed -/
def cu_lo1 (V : Nat → ct_T) (Q : Nat → Nat → Bool) (j : Nat) : Bool := decide (j % 4 < cu_M V (j / 4)) && (Q (j / 4) (j % 4) && !(cu_nq Q (cu_M V) (cu_in 4 (V (j / 4))) (cu_pv V (j / 4) (j % 4))))
def cu_an (f : Nat → Bool) : Nat → Bool
  | 0 => false
  | n + 1 => cu_an f n || f n
theorem cu_an_f {f : Nat → Bool} : ∀ n, cu_an f n = false → ∀ j, j < n → f j = false
  | 0, _, j, hj => absurd hj (by omega)
  | n + 1, h, j, hj => by
    have h' : (cu_an f n || f n) = false := h
    rw [Bool.or_eq_false_iff] at h'
    by_cases hjn : j = n
    · rw [hjn]; exact h'.2
    · exact cu_an_f n h'.1 j (by omega)
theorem cu_an_t {f : Nat → Bool} : ∀ n, cu_an f n = true → ∃ j, j < n ∧ f j = true
  | 0, h => by cases h
  | n + 1, h => by
    have h' : (cu_an f n || f n) = true := h
    rw [Bool.or_eq_true] at h'
    rcases h' with h' | h'
    · obtain ⟨j, h1, h2⟩ := cu_an_t n h'
      exact ⟨j, by omega, h2⟩
    · exact ⟨n, by omega, h'⟩
theorem cu_d4 {j : Nat} (h : j < 32) : Int32.ofNat j / 4 = Int32.ofNat (j / 4) ∧ Int32.ofNat j - Int32.ofNat j / 4 * 4 = Int32.ofNat (j % 4) := by
  have h2 : ∀ v : Fin 32, Int32.ofNat v.val / 4 = Int32.ofNat (v.val / 4) ∧ Int32.ofNat v.val - Int32.ofNat v.val / 4 * 4 = Int32.ofNat (v.val % 4) := by decide +kernel
  exact h2 ⟨j, h⟩
def cW_s (b _j : Nat) : Bool := decide (b = 112)
section CP84
variable {L : Nat} {xs : Nat → Int32} {d : Nat} {T V : Nat → ct_T}
/-- the definitions are gone through -/
theorem cp_243d {K : cm_K} : ∀ (m i : Nat), i + m = 8 → ∀ (S : cm_S) (o2 : Option Value), cv_v S T V → (∀ g, g < i → cv_fg S V g ∧ cv_nq S V (cu_al V) g) →
    (∀ S2 o2, cf_W cW_fi S S2 → (∀ g, g < 8 → cv_fg S2 V g ∧ cv_nq S2 V (cu_al V) g) → cm_At (am_XX L xs) (d + 1) 243 135 [some (.ref 83), some (.int 1), o2, none, none] [] S2 K) →
    cm_At (am_XX L xs) (d + 1) 243 2 [some (.ref 83), some (.int (Int32.ofNat i)), o2, none, none] [] S K := by
  intro m
  induction m with
  | zero =>
    intro i hi S o2 hv hd k
    refine cx_243_2 _ _ ⟨fun h => absurd h ?_, fun _ => k S o2 cf_rfl (fun g hg => hd g (by omega))⟩
    rw [show (8 : Int32) = Int32.ofNat 8 from rfl, cp_lt (by omega) (by omega)]; omega
  | succ m ih =>
    intro i hi S o2 hv hd k
    have hi8 : i < 8 := by omega
    obtain ⟨v1, v2, v3, v4, v5, v6, v7⟩ := hv.2 i hi8
    refine cx_243_2 _ _ ⟨fun _ => ⟨cp_in hi8 (by decide), ?_⟩, fun h => absurd ?_ h⟩
    · rw [cp_cl (by omega)]
      rintro _ rfl
      have step : ∀ (S1 S2 : cm_S) (o2 : Option Value), cf_W (cW_fn i) S S2 → cv_fg S2 V i ∧ cv_nq S2 V (cu_al V) i → cm_At (am_XX L xs) (d + 1) 243 2 [some (.ref 83), some (.int (Int32.ofNat (i + 1))), o2, none, none] [] S2 K := by
        intro S1 S2 o2 c2 hi2
        refine ih (i + 1) (by omega) S2 o2 (cv_v_cf c2 (fun j => decide_eq_false (by omega)) (fun j => decide_eq_false (by omega)) (fun b j q1 q2 => decide_eq_false (by omega)) hv) (fun g hg => ?_) (fun S3 o3 c3 h3 => k S3 o3 (cf_tr (cf_mono c2 (fun b j h => decide_eq_true (by have h := of_decide_eq_true h; omega))) c3) h3)
        by_cases hgi : g = i
        · rw [hgi]; exact hi2
        · obtain ⟨h1, h2⟩ := hd g (by omega)
          refine ⟨cv_fg_cf (hv.2 g (by omega)).1 c2 (decide_eq_false (by omega)) (fun k hk => decide_eq_false (by omega)) (decide_eq_false (by omega)) (fun b j q1 q2 => decide_eq_false (by omega)) h1, fun kk hkk => ?_⟩
          have hM := cu_M_le (U := V) (g := g)
          rw [(c2 111 (4 * g + kk) (decide_eq_false (by omega))).1]
          exact h2 kk hkk
      by_cases hl : T i = .leaf
      · rw [(hv.1 i hi8).1 hl]
        have hlV := v2.mp hl
        refine ⟨fun _ => ⟨cp_in hi8 (by decide), ?_⟩, fun h => absurd rfl h⟩
        rintro _ rfl
        refine cx_243_38 _ _ ⟨fun _ => ⟨cp_in hi8 (by decide), ?_⟩, fun h => absurd rfl h⟩
        rintro _ rfl
        rw [cp_cl (by omega), show Int32.ofNat i + 1 = Int32.ofNat (i + 1) from cp_ad (b := 1)]
        have hM0 : cu_M V i = 0 := by unfold cu_M; rw [hlV, ct_pd_lf]
        refine step S _ _ (cf_tr (cf_wI (decide_eq_true (by omega))) (cf_wI (decide_eq_true (by omega)))) ⟨⟨?_, fun k hk => by omega, fun hn => absurd hlV hn⟩, fun k hk => by omega⟩
        rw [cp_wI1, if_neg (by omega), cp_wI1, if_pos ⟨rfl, rfl⟩, hM0]
        rfl
      · have hlV : ¬ V i = .leaf := fun hc => hl (v2.mpr hc)
        rw [(hv.1 i hi8).2 hl]
        refine ⟨fun h => absurd h (by decide), fun _ => ?_⟩
        rw [show (8 : Int32) + Int32.ofNat i = Int32.ofNat (8 + i) from cp_ad (a := 8)]
        refine ⟨cp_in (by omega) (by decide), ?_⟩
        rintro _ rfl
        refine ⟨cp_in hi8 (by decide), ?_⟩
        rintro _ rfl
        rw [cp_cl (by omega)]
        obtain ⟨fp, hp⟩ := v7 hlV
        have c1 : cf_W (cW_fn i) S (cm_wI S 108 i 0) := cf_wI (decide_eq_true (by omega))
        refine cp_243w hi8 4 0 (V i) rfl v1 _ _ fp (cl_t_fr c1 (fun b j q1 q2 => decide_eq_false (by omega)) v1 hp) hlV (by rw [cp_wI1, if_pos ⟨rfl, rfl⟩]; rfl) (fun S2 o3 c2 _ q8 qk _ qi => ?_)
        refine step S S2 o3 (cf_tr c1 c2) ⟨⟨?_, fun k hk => ?_, fun _ => qi⟩, fun k hk => ?_⟩
        · rw [q8, Nat.zero_add]; rfl
        · have := (qk k hk).1
          rw [Nat.zero_add] at this
          exact this
        · have := (qk k hk).2
          rw [Nat.zero_add] at this
          rw [this, if_pos]
          unfold cu_al
          rw [decide_eq_true hi8, decide_eq_true hk]
          rfl
    · rw [show (8 : Int32) = Int32.ofNat 8 from rfl, cp_lt (by omega) (by omega)]; exact hi8
/-- which parameters are found not to be needed -/
theorem cp_243k {K : cm_K} {Q : Nat → Nat → Bool} (hQ : ∀ g k, Q g k = true → k < cu_M V g) : ∀ (m j : Nat), j + m = 32 → ∀ (S : cm_S) (q2 : Int32) (o4 : Option Value), cv_v S T V → (∀ g, g < 8 → cv_fg S V g ∧ cv_nq S V Q g) → (∀ k, k < 32 → cu_B q2 k = (decide (k < j) && cu_lo1 V Q k)) →
    (∀ S2 q2 o4, cf_W cW_s S S2 → (∀ k, k < 32 → cu_B q2 k = cu_lo1 V Q k) → cm_At (am_XX L xs) (d + 455) 243 222 [some (.ref 83), some (.int 0), some (.int q2), some (.int 0), o4] [] S2 K) →
    cm_At (am_XX L xs) (d + 455) 243 145 [some (.ref 83), some (.int 0), some (.int q2), some (.int (Int32.ofNat j)), o4] [] S K := by
  intro m
  induction m with
  | zero =>
    intro j hj S q2 o4 hv hf hB k
    refine cx_243_145 _ _ _ _ ⟨fun h => absurd h ?_, fun _ => k S q2 o4 cf_rfl (fun kk hkk => ?_)⟩
    · rw [show (32 : Int32) = Int32.ofNat 32 from rfl, cp_lt (by omega) (by omega)]; omega
    · rw [hB kk hkk, decide_eq_true (by omega), Bool.true_and]
  | succ m ih =>
    intro j hj S q2 o4 hv hf hB k
    have hj32 : j < 32 := by omega
    obtain ⟨d1, d2⟩ := cu_d4 hj32
    have hg : j / 4 < 8 := by omega
    obtain ⟨⟨f1, f2, f3⟩, f4⟩ := hf (j / 4) hg
    obtain ⟨v1, v2, v3, v4, v5, v6, v7⟩ := hv.2 (j / 4) hg
    have hM := cu_M_le (U := V) (g := j / 4)
    have ej : 4 * (j / 4) + j % 4 = j := by omega
    have next : ∀ (S2 : cm_S) (q3 : Int32) (o4 : Option Value), cf_W cW_s S S2 → (∀ k, k < 32 → cu_B q3 k = (cu_B q2 k || (decide (k = j) && cu_lo1 V Q j))) → cm_At (am_XX L xs) (d + 455) 243 145 [some (.ref 83), some (.int 0), some (.int q3), some (.int (Int32.ofNat (j + 1))), o4] [] S2 K := by
      intro S2 q3 o4 c2 hb
      refine ih (j + 1) (by omega) S2 q3 o4 (cv_v_cf c2 (fun j => decide_eq_false (by omega)) (fun j => decide_eq_false (by omega)) (fun b j q1 q2 => decide_eq_false (by omega)) hv) (fun g hg => ⟨cv_fg_cf (hv.2 g hg).1 c2 (decide_eq_false (by omega)) (fun k hk => decide_eq_false (by omega)) (decide_eq_false (by omega)) (fun b j q1 q2 => decide_eq_false (by omega)) (hf g hg).1, fun kk hkk => by rw [(c2 111 _ (decide_eq_false (by omega))).1]; exact (hf g hg).2 kk hkk⟩) (fun kk hkk => ?_) (fun S3 q4 o5 c3 => k S3 q4 o5 (cf_tr c2 c3))
      rw [hb kk hkk, hB kk hkk]
      by_cases hkj : kk = j
      · rw [hkj, decide_eq_false (by omega), decide_eq_true rfl, decide_eq_true (by omega), Bool.false_and, Bool.false_or, Bool.true_and]
      · rw [decide_eq_false hkj, Bool.false_and, Bool.or_false]
        by_cases hlt : kk < j
        · rw [decide_eq_true hlt, decide_eq_true (by omega)]
        · rw [decide_eq_false hlt, decide_eq_false (by omega)]
    have same : cu_lo1 V Q j = false → ∀ k, k < 32 → cu_B q2 k = (cu_B q2 k || (decide (k = j) && cu_lo1 V Q j)) := fun h k _ => by rw [h, Bool.and_false, Bool.or_false]
    refine cx_243_145 _ _ _ _ ⟨fun _ => ⟨by decide, by decide, ?_⟩, fun h => absurd ?_ h⟩
    · rw [d2, d1, cp_cl (by omega), cp_cl (by omega), show Int32.ofNat j + 1 = Int32.ofNat (j + 1) from cp_ad (b := 1)]
      refine ⟨cp_in hg (by decide), ?_⟩
      rintro _ rfl
      rw [f1, cp_lt (by omega) (by omega)]
      refine ⟨fun hlt => ⟨cp_in hj32 (by decide), ?_⟩, fun hlt => ?_⟩
      · have hx := f4 (j % 4) hlt
        rw [ej] at hx
        rintro _ rfl
        rw [hx]
        cases hq : Q (j / 4) (j % 4) with
        | false =>
          rw [if_neg (by decide)]
          refine ⟨fun _ => next S q2 _ cf_rfl (same ?_), fun h => absurd rfl h⟩
          unfold cu_lo1
          rw [hq, Bool.false_and, Bool.and_false]
        | true =>
          rw [if_pos rfl]
          refine ⟨fun h => absurd h (by decide), fun _ => ⟨cp_in hg (by decide), ?_⟩⟩
          rintro _ rfl
          have hne : ¬ V (j / 4) = .leaf := fun hc => by
            unfold cu_M at hlt
            rw [hc, ct_pd_lf] at hlt
            omega
          obtain ⟨fq, hfq⟩ := f3 hne
          have hsub := cu_in_sub 4 (V (j / 4)) v1
          have hszin : ct_sz (cu_in 4 (V (j / 4))) ≤ 150 := Nat.le_trans (cu_in_sz 4 _ v1) v6
          have hqq : cl_q S T V Q := ⟨hv.1, fun g hg => ⟨(hf g hg).1.1, fun hl => by unfold cu_M; rw [(hv.2 g hg).2.1.mp hl, ct_pd_lf], (hf g hg).2⟩⟩
          refine cp_241 hQ 150 (cu_in 4 (V (j / 4))) (cu_in_wf 4 _ v1) hszin (d + 454) S _ fq 0 _ (by omega) hfq (cu_in_lf2 4 _ v1 hne) (fun e he => v3 e (hsub e he)) (fun e he => v4 e (hsub e he)) (fun e he => v5 e (hsub e he)) hqq (by omega) (fun S4 c4 e4 s4 => cp_r0 ⟨cp_in hj32 (by decide), ?_⟩)
          rintro _ rfl
          have hpn := f2 (j % 4) hlt
          rw [ej] at hpn
          obtain ⟨p1, p2⟩ := cu_pn_v v1 v5 v4 hlt
          rw [e4, hpn, p1]
          refine cp_238 (l := 0) (d := d + 453) (by omega) p2 s4 (cp_r1 ?_)
          have c4s : cf_W cW_s S S4 := cf_mono c4 (fun b j h => decide_eq_true (by have h := of_decide_eq_true h; omega))
          have hlo : cu_lo1 V Q j = !(cu_nq Q (cu_M V) (cu_in 4 (V (j / 4))) (cu_pn (j % 4) (V (j / 4))).toNatClampNeg) := by
            unfold cu_lo1
            rw [decide_eq_true hlt, hq, Bool.true_and, Bool.true_and]
            rfl
          cases hnq : cu_nq Q (cu_M V) (cu_in 4 (V (j / 4))) (cu_pn (j % 4) (V (j / 4))).toNatClampNeg with
          | false =>
            rw [if_neg (by decide)]
            refine ⟨fun _ => cp_shz (cp_shz (next S4 _ _ c4s (fun kk hkk => ?_))), fun h => absurd rfl h⟩
            rw [cu_B_or, cu_B_sh hj32 hkk, hlo, hnq]
            cases cu_B q2 kk <;> simp
          | true =>
            rw [if_pos rfl]
            refine ⟨fun h => absurd h (by decide), fun _ => cp_shz (cp_shz (next S4 _ _ c4s (fun kk hkk => ?_)))⟩
            rw [cu_B_or, cu_B_z, hlo, hnq]
            simp
      · refine next S q2 _ cf_rfl (same ?_)
        unfold cu_lo1
        rw [decide_eq_false hlt, Bool.false_and]
    · rw [show (32 : Int32) = Int32.ofNat 32 from rfl, cp_lt (by omega) (by omega)]; exact hj32
end CP84
