/-! ## 76 Demand: a whole core; parameters -/
theorem cp_m1lt {r : Nat} (h : r < 2147483648) : Int32.ofNat r - 1 < Int32.ofNat r := by
  rcases r with _ | r
  · decide
  · rw [cp_s1, cp_lt (by omega) h]; omega
def cW_dm (b j : Nat) : Bool := decide (b = 34 ∨ b = 33 ∧ j = 4)
section CP76
variable {L : Nat} {xs : Nat → Int32} {d : Nat} {U : Nat → ct_T}
/-- a set is emptied -/
theorem cp_39z {S : cm_S} {K : cm_K} {r0 p : Nat} {q1 : Int32} (h4 : S.1 33 4 = Int32.ofNat r0) (hp : p < 150)
    (k : ∀ S2, cf_W (cW_ds p (p + 1)) S S2 → S2.1 = S.1 → ck_sb S2 p (fun _ => false) → cm_At (am_XX L xs) (d + 2) 39 32 [some (.ref 33), some (.int q1), some (.int (Int32.ofNat (r0 + p))), some (.int 3)] [] S2 K) :
    cm_At (am_XX L xs) (d + 2) 39 32 [some (.ref 33), some (.int q1), some (.int (Int32.ofNat (r0 + p))), some (.int 0)] [] S K := by
  have st : ∀ (w : Nat) (S : cm_S) (K : cm_K), w < 3 → S.1 33 4 = Int32.ofNat r0 → (cm_At (am_XX L xs) (d + 2) 39 32 [some (.ref 33), some (.int q1), some (.int (Int32.ofNat (r0 + p))), some (.int (Int32.ofNat (w + 1)))] [] (cm_wJ S 34 (3 * p + w) 0) K) → cm_At (am_XX L xs) (d + 2) 39 32 [some (.ref 33), some (.int q1), some (.int (Int32.ofNat (r0 + p))), some (.int (Int32.ofNat w))] [] S K := by
    intro w S K hw h4 k
    refine cx_39_32 _ _ _ ⟨fun _ => ?_, fun h => absurd ?_ h⟩
    · rintro _ rfl
      rw [cu_pl h4]
      refine cp_169 (by decide) (cp_r0 ?_)
      rw [cp_wL_at (by rw [cu_rl.1]; omega) (by decide +kernel), show Int32.ofNat w + 1 = Int32.ofNat (w + 1) from cp_ad (b := 1)]
      exact cp_shz k
    · rw [show (3 : Int32) = Int32.ofNat 3 from rfl, cp_lt (by omega) (by omega)]; exact hw
  refine st 0 S K (by omega) h4 ?_
  refine st 1 _ K (by omega) h4 ?_
  refine st 2 _ K (by omega) h4 ?_
  refine k _ (cf_tr (cf_tr (cf_wJ (decide_eq_true (by omega))) (cf_wJ (decide_eq_true (by omega)))) (cf_wJ (decide_eq_true (by omega)))) rfl ?_
  intro w b hw hb
  have hx : (cm_wJ (cm_wJ (cm_wJ S 34 (3 * p + 0) 0) 34 (3 * p + 1) 0) 34 (3 * p + 2) 0).2 34 (3 * p + w) = 0 := by
    rcases w with _ | _ | _ | w
    · rw [cp_wJ2, if_neg (by omega), cp_wJ2, if_neg (by omega), cp_wJ2, if_pos ⟨rfl, rfl⟩]
    · rw [cp_wJ2, if_neg (by omega), cp_wJ2, if_pos ⟨rfl, rfl⟩]
    · rw [cp_wJ2, if_pos ⟨rfl, rfl⟩]
    · omega
  rw [hx, cu_b_z]
/-- what is needed in the nodes of a tree -/
theorem cp_39t {r0 : Nat} {Q : Nat → Nat → Bool} {q1 : Int32} {K : cm_K} (hU : ∀ i, i < 8 → ct_wf (U i)) (hQ : ∀ g k, Q g k = true → k < 4) (hr0 : r0 ≤ 1050) : ∀ u, ct_wf u → ∀ (p : Nat) (S : cm_S) (o3 : Option Value), S.1 33 4 = Int32.ofNat r0 → ck_q S 35 Q → ck_d S 27 U → ck_t S 27 (r0 + p) u → ct_nus u → cu_ok u → ct_nws u → p + ct_sz u ≤ 150 →
    (∀ S2 o3, cf_W (cW_ds p (p + ct_sz u)) S S2 → S2.1 = S.1 → ck_sa Q (cu_M U) S2 u p → cm_At (am_XX L xs) (d + 5) 39 22 [some (.ref 33), some (.int q1), some (.int (Int32.ofNat (r0 + p) - 1)), o3] [] S2 K) →
    cm_At (am_XX L xs) (d + 5) 39 22 [some (.ref 33), some (.int q1), some (.int (Int32.ofNat (r0 + p + ct_sz u) - 1)), o3] [] S K :=
  ct_ind (fun p S o3 _ _ _ _ _ _ _ _ k => k S o3 cf_rfl rfl trivial) (fun e a b c hw iha ihb ihc p S o3 h4 hq hd ht hnu hok hnw hsz k => by
    obtain ⟨w1, w2, w3, w4, w5, w6, w7⟩ := ct_wf_nd hw
    have ht2 := ht
    rw [ck_t_nd] at ht2
    obtain ⟨t0, t1, t2, t3, t4, t5⟩ := ht2
    obtain ⟨u1, u2, u3, u4⟩ := ct_nus_nd hnu
    obtain ⟨o1, o2, o3', o4⟩ := cu_ok_nd hok
    obtain ⟨n1, n2, n3, n4⟩ := ct_nws_nd hnw
    have hsz2 := hsz
    rw [ct_sz_nd] at hsz2
    have e1 : r0 + p + ct_sz (ct_nd e a b c) = r0 + (p + 1 + ct_sz a + ct_sz b) + ct_sz c := by rw [ct_sz_nd]; omega
    rw [e1]
    refine ihc (p + 1 + ct_sz a + ct_sz b) S o3 h4 hq hd (by rw [show r0 + (p + 1 + ct_sz a + ct_sz b) = r0 + p + 1 + ct_sz a + ct_sz b by omega]; exact t5) u4 o4 n4 (by omega) (fun S3 oc c3 g3 s3 => ?_)
    have k3 : S3.1 33 4 = Int32.ofNat r0 := by rw [g3]; exact h4
    have q3 : ck_q S3 35 Q := fun g hg => by rw [g3]; exact hq g hg
    have d3 := ck_d_fr (a := 27) c3 (fun b j q1 q2 => decide_eq_false (by omega)) hd
    rw [show r0 + (p + 1 + ct_sz a + ct_sz b) = r0 + (p + 1 + ct_sz a) + ct_sz b by omega]
    refine ihb (p + 1 + ct_sz a) S3 oc k3 q3 d3 (ck_t_cf c3 (fun b j q1 q2 _ _ => decide_eq_false (by omega)) (by rw [show r0 + (p + 1 + ct_sz a) = r0 + p + 1 + ct_sz a by omega]; exact t4)) u3 o3' n3 (by omega) (fun S2 ob c2 g2 s2 => ?_)
    have k2 : S2.1 33 4 = Int32.ofNat r0 := by rw [g2]; exact k3
    have q2 : ck_q S2 35 Q := fun g hg => by rw [g2]; exact q3 g hg
    have d2 := ck_d_fr (a := 27) c2 (fun b j q1 q2 => decide_eq_false (by omega)) d3
    have c23 : cf_W (cW_ds (p + 1 + ct_sz a) (p + 1 + ct_sz a + ct_sz b + ct_sz c)) S S2 := cf_tr (cf_mono c3 (fun b j h => decide_eq_true (by have h := of_decide_eq_true h; omega))) (cf_mono c2 (fun b j h => decide_eq_true (by have h := of_decide_eq_true h; omega)))
    rw [show r0 + (p + 1 + ct_sz a) = r0 + (p + 1) + ct_sz a by omega]
    refine iha (p + 1) S2 ob k2 q2 d2 (ck_t_cf c23 (fun b j q1 q2 _ _ => decide_eq_false (by omega)) (by rw [show r0 + (p + 1) = r0 + p + 1 by omega]; exact t3)) u2 o2 n2 (by omega) (fun S1 oa c1 g1 s1 => ?_)
    have k1 : S1.1 33 4 = Int32.ofNat r0 := by rw [g1]; exact k2
    have q1' : ck_q S1 35 Q := fun g hg => by rw [g1]; exact q2 g hg
    have d1 := ck_d_fr (a := 27) c1 (fun b j q1 q2 => decide_eq_false (by omega)) d2
    have c123 : cf_W (cW_ds (p + 1) (p + 1 + ct_sz a + ct_sz b + ct_sz c)) S S1 := cf_tr (cf_mono c23 (fun b j h => decide_eq_true (by have h := of_decide_eq_true h; omega))) (cf_mono c1 (fun b j h => decide_eq_true (by have h := of_decide_eq_true h; omega)))
    rw [show Int32.ofNat (r0 + (p + 1)) - 1 = Int32.ofNat (r0 + p) from cp_s1]
    refine cx_39_22 _ _ _ ?_
    rintro _ rfl
    rw [k1]
    refine ⟨fun h => absurd h (by rw [cp_lt (by omega) (by omega)]; omega), fun _ => ?_⟩
    refine cp_39z k1 (by omega) (fun S0 c0 g0 s0 => ?_)
    have k0 : S0.1 33 4 = Int32.ofNat r0 := by rw [g0]; exact k1
    have q0 : ck_q S0 35 Q := fun g hg => by rw [g0]; exact q1' g hg
    have d0 := ck_d_fr (a := 27) c0 (fun b j q1 q2 => decide_eq_false (by omega)) d1
    have c0123 : cf_W (cW_ds p (p + 1 + ct_sz a + ct_sz b + ct_sz c)) S S0 := cf_tr (cf_mono c123 (fun b j h => decide_eq_true (by have h := of_decide_eq_true h; omega))) (cf_mono c0 (fun b j h => decide_eq_true (by have h := of_decide_eq_true h; omega)))
    have sa := ck_sa_cf c0 a w5 _ (fun j q1 q2 => decide_eq_false (by omega)) s1
    have sb := ck_sa_cf c0 b w6 _ (fun j q1 q2 => decide_eq_false (by omega)) (ck_sa_cf c1 b w6 _ (fun j q1 q2 => decide_eq_false (by omega)) s2)
    have sc := ck_sa_cf c0 c w7 _ (fun j q1 q2 => decide_eq_false (by omega)) (ck_sa_cf c1 c w7 _ (fun j q1 q2 => decide_eq_false (by omega)) (ck_sa_cf c2 c w7 _ (fun j q1 q2 => decide_eq_false (by omega)) s3))
    refine cx_39_32 _ _ _ ⟨fun h => absurd h (by decide), fun _ => ?_⟩
    refine cp_41 d0 hU hQ hw k0 q0 (ck_t_cf c0123 (fun b j q1 q2 _ _ => decide_eq_false (by omega)) ht) hnu hok hnw hsz s0 sa sb sc (fun S9 c9 g9 s9 => cp_r0 ?_)
    rw [cp_pm1]
    refine cp_shz (k S9 _ (cf_tr (cf_mono c0123 (fun b j h => decide_eq_true (by have h := of_decide_eq_true h; rw [ct_sz_nd]; omega))) (cf_mono c9 (fun b j h => decide_eq_true (by have h := of_decide_eq_true h; rw [ct_sz_nd]; omega)))) (g9.trans (g0.trans (g1.trans (g2.trans g3)))) ?_)
    rw [ck_sa_nd]
    exact ⟨s9, ck_sa_cf c9 a w5 _ (fun j q1 q2 => decide_eq_false (by omega)) sa, ck_sa_cf c9 b w6 _ (fun j q1 q2 => decide_eq_false (by omega)) sb, ck_sa_cf c9 c w7 _ (fun j q1 q2 => decide_eq_false (by omega)) sc⟩)
/-- what is needed in the nodes of a core -/
theorem cp_39 {S : cm_S} {K : cm_K} {Q : Nat → Nat → Bool} {i : Nat} (hU : ∀ i, i < 8 → ct_wf (U i)) (hQ : ∀ g k, Q g k = true → k < 4) (hi : i < 8) (hn : ¬ U i = .leaf) (hq : ck_q S 35 Q) (hd : ck_d S 27 U) (hnu : ct_nus (U i)) (hok : cu_ok (U i)) (hnw : ct_nws (U i)) (hsz : ct_sz (U i) ≤ 150)
    (k : ∀ S2, cf_W cW_dm S S2 → S2.1 33 4 = Int32.ofNat (150 * i) → ck_sa Q (cu_M U) S2 (U i) 0 → K (.inl none) S2 0) :
    cm_At (am_XX L xs) (d + 5) 39 0 [some (.ref 33), some (.int (Int32.ofNat i)), none, none] [] S K := by
  refine cx_39_0 _ ?_
  refine cp_165 (cp_r1 ?_)
  rw [cp_rt]
  rintro _ rfl
  rintro _ rfl
  have c5 : cf_W cW_dm S (cm_wI S 33 4 (Int32.ofNat (150 * i))) := cf_wI (decide_eq_true (by omega))
  have h4 : (cm_wI S 33 4 (Int32.ofNat (150 * i))).1 33 4 = Int32.ofNat (150 * i) := by rw [cp_wI1, if_pos ⟨rfl, rfl⟩]
  have d5 := ck_d_fr (a := 27) c5 (fun b j q1 q2 => decide_eq_false (by omega)) hd
  have q5 : ck_q (cm_wI S 33 4 (Int32.ofNat (150 * i))) 35 Q := fun g hg => by rw [cp_wI1, if_neg (by omega)]; exact hq g hg
  rw [h4]
  have ht := (d5 i hi).2 hn
  refine cp_13t (by decide) ht (hU i hi) hn (cp_r1 ?_)
  refine cp_shz (cp_shz (cp_39t (r0 := 150 * i) hU hQ (by omega) (U i) (hU i hi) 0 _ none h4 q5 d5 ht hnu hok hnw (by omega) (fun S2 o3 c2 g2 s2 => ?_)))
  refine cx_39_22 _ _ _ ?_
  rintro _ rfl
  rw [g2, h4]
  refine ⟨fun _ => k S2 (cf_tr c5 (cf_mono c2 (fun b j h => decide_eq_true (by have h := of_decide_eq_true h; omega)))) (by rw [g2]; exact h4) s2, fun h => absurd (cp_m1lt (by omega)) h⟩
/-- all parameters of a definition, as bits -/
theorem cp_36 {S : cm_S} {K : cm_K} {g : Nat} (hd : ck_d S 27 U) (hU : ∀ i, i < 8 → ct_wf (U i)) (hg : g < 8) (k : K (.inl (some (.int (Int32.ofNat (cu_mf (fun k => decide (k < cu_M U g))))))) S 0) : cm_At (am_XX L xs) (d + 3) 36 0 [some (.ref 33), some (.int (Int32.ofNat g))] [] S K := by
  refine cx_36_0 _ ?_
  refine cp_165 (cp_r1 ?_)
  rw [cp_rt]
  refine cp_32U hd hU hg (cp_r1 ?_)
  have h2 : ∀ m : Fin 5, ((1 : Int32) <<< (Int32.ofNat m.val &&& 31)) - 1 = Int32.ofNat (cu_mf (fun k => decide (k < m.val))) := by decide +kernel
  rw [h2 ⟨cu_M U g, by have := cu_M_le (U := U) (g := g); omega⟩]
  exact k
end CP76
