/-! ## 39 takeInOrder -/
theorem ct_can_wf {t : ct_T} (h : ct_wf t) : ct_wf (ct_can t) := ct_map_wf t h
theorem ct_can_sz {t : ct_T} : ct_sz (ct_can t) = ct_sz t := ct_map_sz t
theorem ct_can_lf {t : ct_T} (h : ct_wf t) : ct_can t = .leaf ↔ t = .leaf := ct_map_lf h
/-- the variables that a node adds to those that are numbered -/
theorem ct_rp_bl {t : ct_T} (hw : ct_wf t) {P : List Int32} (h : ∀ x, x ∈ P ↔ x ∈ ct_bl (ct_fl t)) : (ct_fl t).map (ct_rd (ct_rp P (ct_bo t))) = ct_fl (ct_can t) := by
  unfold ct_can
  rw [ct_map_fl]
  have e : ct_rp P (ct_bo t) = ct_rp (ct_bo t) (ct_bo t) := by
    funext x
    unfold ct_rp
    by_cases hx : x ∈ ct_bo t
    · rw [if_pos hx, if_pos ((h x).mpr ((ct_bo_perm t hw).mem_iff.mp hx))]
    · rw [if_neg hx, if_neg (fun hc => hx ((ct_bo_perm t hw).mem_iff.mpr ((h x).mp hc)))]
  rw [e]
section CP39
variable {L : Nat} {xs : Nat → Int32} {d a c : Nat}
theorem cp_28l (ha : a ∈ cm_code7) (hc : c ∈ cm_code7) (hne : ¬ a = c) {r s : Nat} {t : ct_T} (hw : ct_wf t) (hn : ¬ t = .leaf) (hnw : ct_nws t) (hnd : (ct_bo t).Nodup) (hr : r + ct_sz t ≤ cm_cap a) :
    ∀ (l : List ct_D) (i : Nat) (P : List Int32) (o6 : Option Value) (S : cm_S) (K : cm_K), i + l.length = ct_sz t → (∀ (j : Nat) (e : ct_D), l[j]? = some e → (ct_fl t)[i + j]? = some e) → ck_t S c s t → ck_f S a r ((ct_fl t).map (ct_rd (ct_rp P (ct_bo t)))) →
    (∀ S2 P2, (∀ x, x ∈ P2 ↔ x ∈ P ∨ x ∈ ct_bl l) → ck_f S2 a r ((ct_fl t).map (ct_rd (ct_rp P2 (ct_bo t)))) → cf_W (cW_v a r (r + ct_sz t)) S S2 → K (.inl none) S2 0) →
    cm_At (am_XX L xs) (d + 5) 28 17 [some (.ref a), some (.int (Int32.ofNat r)), some (.ref c), some (.int (Int32.ofNat s)), some (.int (Int32.ofNat (s + ct_sz t))), some (.int (Int32.ofNat (s + i))), o6] [] S K
  | [], i, P, o6, S, K, hi, hl, ht, hd, k => by
    have gc2 := (cp_aI (cp_c7 hc)).2.2
    have h3 := ht.2.2
    rw [List.length_nil] at hi
    refine cx_28_17 ha hc _ _ _ _ _ ⟨fun h => absurd h ?_, fun _ => ?_⟩
    · rw [cp_lt (by omega) (by omega)]; omega
    · exact k S P (fun x => ⟨fun h => Or.inl h, fun h => by rcases h with h | h; exact h; cases h⟩) hd cf_rfl
  | e :: l, i, P, o6, S, K, hi, hl, ht, hd, k => by
    have ha8 := cp_c7 ha
    have hc8 := cp_c7 hc
    have gc := (cp_aI ha8).2.2
    have gc2 := (cp_aI hc8).2.2
    have hac := cp_ac ha8 hc8 hne
    have h3 := ht.2.2
    rw [List.length_cons] at hi
    have he := hl 0 e rfl
    rw [Nat.add_zero] at he
    have hrow : cp_row S c (s + i) = e := ht.1 i e he
    have hnwe : ct_nw e := hnw e (List.mem_of_getElem? he)
    have hls : ∀ (j : Nat) (e : ct_D), l[j]? = some e → (ct_fl t)[i + 1 + j]? = some e := fun j e2 hj => by
      rw [show i + 1 + j = i + (j + 1) by omega]
      exact hl (j + 1) e2 (by rw [List.getElem?_cons_succ]; exact hj)
    have hlm : i < (ct_mm s t).length := by rw [ct_mm_len]; omega
    have hm : (ct_mm s t)[i]? = some (ct_mm s t)[i] := List.getElem?_eq_getElem hlm
    have hlen : ∀ Q, ct_sz t = ((ct_fl t).map (ct_rd (ct_rp Q (ct_bo t)))).length := fun Q => by rw [List.length_map, ct_fl_len]
    have keep : ∀ {S1 S2 : cm_S}, cf_W (cW_v a r (r + ct_sz t)) S1 S2 → ck_t S1 c s t → ck_t S2 c s t := fun hcf h => ck_t_cf hcf (fun b j q1 q2 q3 q4 => decide_eq_false (by omega)) h
    refine cx_28_17 ha hc _ _ _ _ _ ⟨fun _ => ?_, fun h => absurd (by rw [cp_lt (by omega) (by omega)]; omega) h⟩
    rw [show Int32.ofNat (s + i) + 1 = Int32.ofNat (s + (i + 1)) from cp_ad (b := 1)]
    refine cp_18 hc8 (cp_r1 ?_)
    rw [cp_gr_at hc8 (by omega), hrow]
    by_cases hib : ct_ib e = true
    · rw [if_pos hib]
      refine ⟨fun h => absurd h (by decide), fun _ => ?_⟩
      obtain ⟨j1, j2, j3⟩ := ct_cb_ix t hw s hnw hnd i e _ he hm hib
      refine cp_30 hc hw hn ht hm (cp_r1 ?_)
      rw [j1]
      refine cp_9 hc8 (cp_r1 ?_)
      rw [cp_g_at (by omega) (cp_cap hc8), show S.1 (c + 2) (s + i) = e.2.2.1 by rw [← hrow]; rfl]
      refine cp_29 ha8 hc8 hne (of_decide_eq_true hib).1 hw hn ht (hlen P) hd hr (fun S1 g1 g2 => cp_r0 ?_)
      rw [ct_to_rp] at g1
      have ht1 := keep g2 ht
      refine cp_10 hc8 (cp_r1 ?_)
      rw [cp_g_at (by omega) (cp_cap hc8), (g2 (c + 3) (s + i) (decide_eq_false (by omega))).1, show S.1 (c + 3) (s + i) = e.2.2.2 by rw [← hrow]; rfl]
      have h9 := (ct_ib_of hnwe).mp hib
      by_cases h12 : e.1 = 12
      · obtain ⟨j4, j5⟩ := j3 h12
        rw [show Int32.ofNat (ct_ix e.2.2.1 (ct_bo t)) + 1 = Int32.ofNat (ct_ix e.2.2.1 (ct_bo t) + 1) from cp_ad (b := 1), ← j1, j4]
        refine cp_29 ha8 hc8 hne (hnwe.2.1 h12).2.1 hw hn ht1 (hlen _) g1 hr (fun S2 u1 u2 => cp_r0 ?_)
        rw [ct_to_rp] at u1
        refine cp_28l ha hc hne hw hn hnw hnd hr l (i + 1) (e.2.2.2 :: e.2.2.1 :: P) _ S2 _ (by omega) hls (keep u2 ht1) u1 (fun S3 P2 v1 v2 v3 => ?_)
        refine k S3 P2 (fun x => ?_) v2 (cf_tr g2 (cf_tr u2 v3))
        rw [v1]
        show _ ↔ x ∈ P ∨ x ∈ ct_ob e ++ ct_bl l
        unfold ct_ob
        rw [if_pos h12]
        simp only [List.mem_cons, List.mem_append, List.not_mem_nil, or_false]
        constructor
        · rintro ((h | h | h) | h)
          · exact Or.inr (Or.inl (Or.inr h))
          · exact Or.inr (Or.inl (Or.inl h))
          · exact Or.inl h
          · exact Or.inr (Or.inr h)
        · rintro (h | (h | h) | h)
          · exact Or.inl (Or.inr (Or.inr h))
          · exact Or.inl (Or.inr (Or.inl h))
          · exact Or.inl (Or.inl h)
          · exact Or.inr h
      · have h8 : e.1 = 4 ∨ e.1 = 6 ∨ e.1 = 7 ∨ e.1 = 8 := by
          rcases h9 with h | h | h | h | h
          · exact Or.inl h
          · exact Or.inr (Or.inl h)
          · exact Or.inr (Or.inr (Or.inl h))
          · exact Or.inr (Or.inr (Or.inr h))
          · exact absurd h h12
        rw [(hnwe.1 (Or.inr h8)).2]
        refine cp_29z ha8 hc8 (cp_r0 ?_)
        refine cp_28l ha hc hne hw hn hnw hnd hr l (i + 1) (e.2.2.1 :: P) _ S1 _ (by omega) hls ht1 g1 (fun S3 P2 v1 v2 v3 => ?_)
        refine k S3 P2 (fun x => ?_) v2 (cf_tr g2 v3)
        rw [v1]
        show _ ↔ x ∈ P ∨ x ∈ ct_ob e ++ ct_bl l
        unfold ct_ob
        rw [if_neg h12, if_pos h8]
        simp only [List.mem_cons, List.mem_append, List.not_mem_nil, or_false]
        constructor
        · rintro ((h | h) | h)
          · exact Or.inr (Or.inl h)
          · exact Or.inl h
          · exact Or.inr (Or.inr h)
        · rintro (h | h | h)
          · exact Or.inl (Or.inr h)
          · exact Or.inl (Or.inl h)
          · exact Or.inr h
    · rw [if_neg hib]
      refine ⟨fun _ => ?_, fun h => absurd rfl h⟩
      refine cp_28l ha hc hne hw hn hnw hnd hr l (i + 1) P _ S _ (by omega) hls ht hd (fun S3 P2 v1 v2 v3 => ?_)
      refine k S3 P2 (fun x => ?_) v2 v3
      rw [v1]
      show _ ↔ x ∈ P ∨ x ∈ ct_ob e ++ ct_bl l
      have hob : ct_ob e = [] := by
        unfold ct_ob
        rw [if_neg (fun h => hib ((ct_ib_of hnwe).mpr (Or.inr (Or.inr (Or.inr (Or.inr h)))))), if_neg (fun h => hib ((ct_ib_of hnwe).mpr (by rcases h with h | h | h | h; exact Or.inl h; exact Or.inr (Or.inl h); exact Or.inr (Or.inr (Or.inl h)); exact Or.inr (Or.inr (Or.inr (Or.inl h))))))]
      rw [hob, List.nil_append]
theorem cp_28 (ha : a ∈ cm_code7) (hc : c ∈ cm_code7) (hne : ¬ a = c) {r s : Nat} {t : ct_T} {S : cm_S} {K : cm_K} (hw : ct_wf t) (hn : ¬ t = .leaf) (hnw : ct_nws t) (hnd : (ct_bo t).Nodup) (hr : r + ct_sz t ≤ cm_cap a) (ht : ck_t S c s t)
    (k : ∀ S2, ck_t S2 a r (ct_can t) → cf_W (cW_c a r (r + ct_sz t)) S S2 → K (.inl none) S2 0) :
    cm_At (am_XX L xs) (d + 5) 28 0 [some (.ref a), some (.int (Int32.ofNat r)), some (.ref c), some (.int (Int32.ofNat s)), none, none, none] [] S K := by
  have ha8 := cp_c7 ha
  have hc8 := cp_c7 hc
  have hac := cp_ac ha8 hc8 hne
  refine cx_28_0 ha hc _ _ ?_
  refine cp_21 ha8 hc8 hne hw hn ht hr (fun S1 t1 c1 => cp_r0 ?_)
  have ht1 : ck_t S1 c s t := ck_t_cf c1 (fun b j q1 q2 q3 q4 => decide_eq_false (by omega)) ht
  refine cp_13t hc8 ht1 hw hn (cp_r1 ?_)
  have hid : (ct_fl t).map (ct_rd (ct_rp [] (ct_bo t))) = ct_fl t := by
    have e : ct_rd (ct_rp [] (ct_bo t)) = id := by
      funext e
      show (e.1, e.2.1, (if e.2.2.1 ∈ ([] : List Int32) then _ else e.2.2.1), (if e.2.2.2 ∈ ([] : List Int32) then _ else e.2.2.2)) = e
      rw [if_neg (by simp), if_neg (by simp)]
    rw [e, List.map_id]
  have h := cp_28l (L := L) (xs := xs) (d := d) ha hc hne (r := r) (s := s) hw hn hnw hnd hr (ct_fl t) 0 [] none S1 (cm_sh (cm_sh K 0) 0) (by rw [ct_fl_len, Nat.zero_add]) (fun j e h => by rw [Nat.zero_add]; exact h) ht1 (by rw [hid]; exact t1.1) (fun S2 P2 g1 g2 g3 => by
    refine k S2 ⟨?_, ?_, by rw [ct_can_sz]; exact hr⟩ (cf_tr c1 (cf_mono g3 (fun b j h => decide_eq_true (by have h := of_decide_eq_true h; omega))))
    · rw [ct_rp_bl hw (fun x => by rw [g1]; simp)] at g2
      exact g2
    · unfold ct_can
      rw [ct_map_ss]
      intro i n hi
      rw [(g3 (a + 5) (r + i) (decide_eq_false (by omega))).1]
      exact t1.2.1 i n hi)
  exact h
theorem cp_28z (ha : a ∈ cm_code7) (hc : c ∈ cm_code7) {p q : Int32} {S : cm_S} {K : cm_K} (h : cp_g (cm_cap c) (S.1 (c + 5)) 0 q = 0) (k : K (.inl none) S 0) :
    cm_At (am_XX L xs) (d + 5) 28 0 [some (.ref a), some (.int p), some (.ref c), some (.int q), none, none, none] [] S K := by
  refine cx_28_0 ha hc _ _ ?_
  refine cp_21z (cp_c7 ha) (cp_c7 hc) h (cp_r0 ?_)
  refine cp_13 (cp_c7 hc) (cp_r1 ?_)
  rw [h, Int32.add_zero]
  refine cx_28_17 ha hc _ _ _ _ _ ⟨fun h => absurd h ?_, fun _ => k⟩
  rw [Int32.lt_iff_toInt_lt]; omega
end CP39
