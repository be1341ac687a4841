/-! ## 85 the model's rounds to their end; findsNeeds -/
section CP85
variable {L : Nat} {xs : Nat → Int32} {d : Nat} {T V : Nat → ct_T}
/-- one parameter is marked -/
theorem cp_243s1 {S : cm_S} {K : cm_K} {j : Nat} {q2 : Int32} {o4 : Option Value} {f : Bool} (hj : j < 32) (k : ∀ S2 o4, cf_W (fun b i => decide (b = 111 ∧ i = j)) S S2 → S2.1 111 j = (if S.1 111 j = 0 then 0 else if cu_B q2 j = true then 0 else 1) → cm_At (am_XX L xs) (d + 1) 243 222 [some (.ref 83), some (.int (if (f || cu_B q2 j) = true then 1 else 0)), some (.int q2), some (.int (Int32.ofNat (j + 1))), o4] [] S2 K) :
    cm_At (am_XX L xs) (d + 1) 243 222 [some (.ref 83), some (.int (if f = true then 1 else 0)), some (.int q2), some (.int (Int32.ofNat j)), o4] [] S K := by
  have cf : ∀ x, cf_W (fun b i => decide (b = 111 ∧ i = j)) S (cm_wI S 111 j x) := fun x => cf_wI (decide_eq_true ⟨rfl, rfl⟩)
  have v : ∀ x, (cm_wI S 111 j x).1 111 j = x := fun x => by rw [cp_wI1, if_pos ⟨rfl, rfl⟩]
  have n0 : vp_nar .boolean (0 : Int32) = 0 := rfl
  have n1 : vp_nar .boolean (1 : Int32) = 1 := rfl
  refine cx_243_222 _ _ _ _ ⟨fun _ => ?_, fun h => absurd ?_ h⟩
  · rw [cp_cl (by omega), show Int32.ofNat j + 1 = Int32.ofNat (j + 1) from cp_ad (b := 1), cu_B_ts hj, n0, n1]
    refine ⟨fun hb => ⟨cp_in hj (by decide), ?_⟩, fun hb => ⟨cp_in hj (by decide), ?_⟩⟩
    · rw [hb, Bool.or_true, if_pos rfl] at k
      rintro _ rfl
      refine ⟨fun hx => ⟨cp_in hj (by decide), ?_⟩, fun hx => ⟨fun h => absurd h (by decide), fun _ => ⟨cp_in hj (by decide), ?_⟩⟩⟩
      · rintro _ rfl
        have := fun o => k (cm_wI S 111 j 0) o (cf 0) (by rw [v, if_pos hx])
        exact ⟨fun _ => ⟨fun h => absurd h (by decide), fun _ => this _⟩, fun _ => this _⟩
      · rintro _ rfl
        have := fun o => k (cm_wI S 111 j 0) o (cf 0) (by rw [v, if_neg hx])
        exact ⟨fun _ => ⟨fun h => absurd h (by decide), fun _ => this _⟩, fun _ => this _⟩
    · have hbf : cu_B q2 j = false := by simpa using hb
      rw [hbf, Bool.or_false] at k
      rintro _ rfl
      have fin : ∀ (x : Int32), x = (if S.1 111 j = 0 then 0 else if false = true then 0 else 1) → ((if f = true then (1 : Int32) else 0) = 0 → ((0 : Int32) = 0 → cm_At (am_XX L xs) (d + 1) 243 222 [some (.ref 83), some (.int 0), some (.int q2), some (.int (Int32.ofNat (j + 1))), some (.int 0)] [] (cm_wI S 111 j x) K) ∧ (¬ (0 : Int32) = 0 → cm_At (am_XX L xs) (d + 1) 243 222 [some (.ref 83), some (.int 1), some (.int q2), some (.int (Int32.ofNat (j + 1))), some (.int 0)] [] (cm_wI S 111 j x) K)) ∧ (¬ (if f = true then (1 : Int32) else 0) = 0 → cm_At (am_XX L xs) (d + 1) 243 222 [some (.ref 83), some (.int 1), some (.int q2), some (.int (Int32.ofNat (j + 1))), some (.int 0)] [] (cm_wI S 111 j x) K) := by
        intro x hx
        have := fun o => k (cm_wI S 111 j x) o (cf x) (by rw [v]; exact hx)
        cases f with
        | true =>
          rw [if_pos rfl] at this ⊢
          exact ⟨fun h => absurd h (by decide), fun _ => this _⟩
        | false =>
          rw [if_neg (by decide)] at this ⊢
          exact ⟨fun _ => ⟨fun _ => this _, fun h => absurd rfl h⟩, fun h => absurd rfl h⟩
      refine ⟨fun hx => ⟨cp_in hj (by decide), ?_⟩, fun hx => ⟨fun _ => ⟨cp_in hj (by decide), ?_⟩, fun h => absurd rfl h⟩⟩
      · rintro _ rfl
        exact fin 0 (by rw [if_pos hx])
      · rintro _ rfl
        exact fin 1 (by rw [if_neg hx, if_neg (by decide)])
  · rw [show (32 : Int32) = Int32.ofNat 32 from rfl, cp_lt (by omega) (by omega)]; exact hj
theorem cp_243s {K : cm_K} {q2 : Int32} {g : Nat → Bool} (hB : ∀ i, i < 32 → cu_B q2 i = g i) : ∀ (m j : Nat), j + m = 32 → ∀ (S : cm_S) (o4 : Option Value),
    (∀ S2 o4, cf_W (fun b _ => decide (b = 111)) S S2 → (∀ i, i < 32 → S2.1 111 i = if i < j then S.1 111 i else (if S.1 111 i = 0 then 0 else if g i = true then 0 else 1)) → cm_At (am_XX L xs) (d + 1) 243 135 [some (.ref 83), some (.int (if cu_an g 32 = true then 1 else 0)), some (.int q2), some (.int 32), o4] [] S2 K) →
    cm_At (am_XX L xs) (d + 1) 243 222 [some (.ref 83), some (.int (if cu_an g j = true then 1 else 0)), some (.int q2), some (.int (Int32.ofNat j)), o4] [] S K := by
  intro m
  induction m with
  | zero =>
    intro j hj S o4 k
    have hj32 : j = 32 := by omega
    subst hj32
    exact cx_243_222 _ _ _ _ ⟨fun h => absurd h (by decide), fun _ => k S o4 cf_rfl (fun i hi => by rw [if_pos hi])⟩
  | succ m ih =>
    intro j hj S o4 k
    refine cp_243s1 (by omega) (fun S1 o1 c1 h1 => ?_)
    rw [hB j (by omega)] at h1 ⊢
    refine ih (j + 1) (by omega) S1 o1 (fun S2 o2 c2 h2 => k S2 o2 (cf_tr (cf_mono c1 (fun b i h => decide_eq_true (of_decide_eq_true h).1)) c2) (fun i hi => ?_))
    rw [h2 i hi]
    by_cases hij : i = j
    · rw [hij, if_pos (by omega), if_neg (by omega), h1]
    · rw [(c1 111 i (decide_eq_false (by omega))).1]
      by_cases hlt : i < j
      · rw [if_pos (by omega), if_pos hlt]
      · rw [if_neg (by omega), if_neg hlt]
/-- the rounds of the model -/
theorem cp_243r {K : cm_K} : ∀ (m n : Nat), n + m = 33 → n + cu_c (cu_it V n) 32 ≤ 32 → ∀ (S : cm_S) (o2 o3 o4 : Option Value), cv_v S T V → (∀ g, g < 8 → cv_fg S V g ∧ cv_nq S V (cu_it V n) g) →
    (∀ S2, cf_W cW_fi S S2 → (∀ g, g < 8 → cv_fg S2 V g ∧ cv_nq S2 V (cu_lim V) g) → K (.inl none) S2 0) →
    cm_At (am_XX L xs) (d + 455) 243 135 [some (.ref 83), some (.int 1), o2, o3, o4] [] S K := by
  intro m
  induction m with
  | zero => intro n hn hc; omega
  | succ m ih =>
    intro n hn hc S o2 o3 o4 hv hf k
    have hQ : ∀ g k, cu_it V n g k = true → k < cu_M V g := fun g k h => (cu_it_al n g k h).2
    refine cx_243_135 _ _ _ _ ⟨fun h => absurd h (by decide), fun _ => ?_⟩
    refine cp_243k (Q := cu_it V n) hQ 32 0 rfl S 0 o4 hv hf (fun kk hkk => by rw [cu_B_z, decide_eq_false (by omega), Bool.false_and]) (fun S1 q2 o1 c1 hB => ?_)
    refine cp_243s hB 32 0 rfl S1 o1 (fun S2 o5 c2 h2 => ?_)
    have c12 : cf_W cW_fi S S2 := cf_tr (cf_mono c1 (fun b j h => decide_eq_true (by have h := of_decide_eq_true h; omega))) (cf_mono c2 (fun b j h => decide_eq_true (by have h := of_decide_eq_true h; omega)))
    have hf2 : ∀ g, g < 8 → cv_fg S2 V g ∧ cv_nq S2 V (cu_it V (n + 1)) g := fun g hg => by
      have hM := cu_M_le (U := V) (g := g)
      refine ⟨cv_fg_cf (hv.2 g hg).1 c2 (decide_eq_false (by omega)) (fun k hk => decide_eq_false (by omega)) (decide_eq_false (by omega)) (fun b j q1 q2 => decide_eq_false (by omega)) (cv_fg_cf (hv.2 g hg).1 c1 (decide_eq_false (by omega)) (fun k hk => decide_eq_false (by omega)) (decide_eq_false (by omega)) (fun b j q1 q2 => decide_eq_false (by omega)) (hf g hg).1), fun kk hkk => ?_⟩
      rw [h2 (4 * g + kk) (by omega), if_neg (by omega), (c1 111 _ (decide_eq_false (by omega))).1, (hf g hg).2 kk hkk]
      have e1 : (4 * g + kk) / 4 = g := by omega
      have e2 : (4 * g + kk) % 4 = kk := by omega
      unfold cu_lo1
      rw [e1, e2, decide_eq_true hkk, Bool.true_and, cu_it_s]
      unfold cu_F
      cases cu_it V n g kk with
      | false => simp
      | true =>
        cases cu_nq (cu_it V n) (cu_M V) (cu_in 4 (V g)) (cu_pv V g kk) <;> simp
    cases ha : cu_an (cu_lo1 V (cu_it V n)) 32 with
    | false =>
      rw [if_neg (by decide)]
      have hz := cu_an_f 32 ha
      have hs : cu_it V (n + 1) = cu_it V n := by
        funext g kk
        rw [cu_it_s]
        unfold cu_F
        cases hq : cu_it V n g kk with
        | false => rw [Bool.false_and]
        | true =>
          obtain ⟨hg, hk⟩ := cu_it_al n g kk hq
          have hM := cu_M_le (U := V) (g := g)
          have h3 := hz (4 * g + kk) (by omega)
          unfold cu_lo1 at h3
          rw [show (4 * g + kk) / 4 = g by omega, show (4 * g + kk) % 4 = kk by omega, decide_eq_true hk, hq, Bool.true_and, Bool.true_and] at h3
          rw [Bool.true_and]
          simpa using h3
      have hl := cu_lim_of (by omega) hs
      rw [hs, hl] at hf2
      exact cx_243_135 _ _ _ _ ⟨fun _ => k S2 c12 hf2, fun h => absurd rfl h⟩
    | true =>
      rw [if_pos rfl]
      obtain ⟨j, hj, hlo⟩ := cu_an_t 32 ha
      have hs : ¬ cu_it V (n + 1) = cu_it V n := fun hc => by
        unfold cu_lo1 at hlo
        simp only [Bool.and_eq_true] at hlo
        have h3 := congrFun (congrFun hc (j / 4)) (j % 4)
        rw [cu_it_s] at h3
        unfold cu_F at h3
        rw [hlo.2.1, Bool.true_and] at h3
        rw [show cu_nq (cu_it V n) (cu_M V) (cu_in 4 (V (j / 4))) (cu_pv V (j / 4) (j % 4)) = true from h3] at hlo
        exact absurd hlo.2.2 (by decide)
      have := cu_it_le hs
      refine ih (n + 1) (by omega) (by omega) S2 _ _ _ (cv_v_cf c12 (fun j => decide_eq_false (by omega)) (fun j => decide_eq_false (by omega)) (fun b j q1 q2 => decide_eq_false (by omega)) hv) hf2 (fun S3 c3 h3 => k S3 (cf_tr c12 c3) h3)
/-- the model finds what is needed -/
theorem cp_243 {S : cm_S} {K : cm_K} (hv : cv_v S T V) (k : ∀ S2, cf_W cW_fi S S2 → (∀ g, g < 8 → cv_fg S2 V g ∧ cv_nq S2 V (cu_lim V) g) → K (.inl none) S2 0) :
    cm_At (am_XX L xs) (d + 455) 243 0 [some (.ref 83), none, none, none, none] [] S K := by
  refine cx_243_0 ?_
  refine cp_243d 8 0 rfl S none hv (fun g hg => by omega) (fun S1 o1 c1 h1 => ?_)
  exact cp_243r 33 0 rfl (by have := cu_c_le (Q := cu_it V 0) 32; omega) S1 o1 none none (cv_v_cf c1 (fun j => decide_eq_false (by omega)) (fun j => decide_eq_false (by omega)) (fun b j q1 q2 => decide_eq_false (by omega)) hv) h1 (fun S2 c2 h2 => k S2 (cf_tr c1 c2) h2)
end CP85
