/-! ## 75 Demand: one node, a whole core -/
theorem ct_nws_v {e : ct_D} (h : ct_nw e) (hk : e.1 = 2 ∨ e.1 = 6) (ho : e.2.2.1 = -1 ∨ (0 ≤ e.2.2.1.toInt ∧ e.2.2.1.toInt < 192)) : ∃ v, v < 192 ∧ e.2.2.1 = Int32.ofNat v ∧ e.2.2.1.toNatClampNeg = v := by
  have h1 : ¬ e.2.2.1 = -1 := (h.1 (by rcases hk with h | h; exact Or.inl h; exact Or.inr (Or.inr (Or.inl h)))).1
  rcases ho with ho | ho
  · exact absurd ho h1
  · obtain ⟨v, hv, h2, h3⟩ := cp_of ho.1
    exact ⟨v, by omega, hv, by rw [hv, cp_cl h3]⟩
section CP75
variable {L : Nat} {xs : Nat → Int32} {d : Nat} {U : Nat → ct_T}
/-- what is needed in one node -/
theorem cp_41 {S : cm_S} {K : cm_K} {r0 p : Nat} {Q : Nat → Nat → Bool} {e : ct_D} {a b c : ct_T} (hd : ck_d S 27 U) (hU : ∀ i, i < 8 → ct_wf (U i)) (hQ : ∀ g k, Q g k = true → k < 4) (hw : ct_wf (ct_nd e a b c)) (h4 : S.1 33 4 = Int32.ofNat r0) (hq : ck_q S 35 Q) (ht : ck_t S 27 (r0 + p) (ct_nd e a b c)) (hnu : ct_nus (ct_nd e a b c)) (hok : cu_ok (ct_nd e a b c)) (hnw : ct_nws (ct_nd e a b c)) (hsz : p + ct_sz (ct_nd e a b c) ≤ 150) (hsb : ck_sb S p (fun _ => false)) (sa1 : ck_sa Q (cu_M U) S a (p + 1)) (sa2 : ck_sa Q (cu_M U) S b (p + 1 + ct_sz a)) (sa3 : ck_sa Q (cu_M U) S c (p + 1 + ct_sz a + ct_sz b))
    (k : ∀ S2, cf_W (cW_ds p (p + 1)) S S2 → S2.1 = S.1 → ck_sb S2 p (cu_nq Q (cu_M U) (ct_nd e a b c)) → K (.inl none) S2 0) :
    cm_At (am_XX L xs) (d + 4) 41 0 [some (.ref 33), some (.int (Int32.ofNat (r0 + p)))] [] S K := by
  have hgr := cp_rw (S := S) (a := 27) (by decide) ht
  have h1 : cp_g (cm_cap 27) (S.1 28) 0 (Int32.ofNat (r0 + p)) = e.1 := congrArg Prod.fst hgr
  have hn1 : cp_g (cm_cap 27) (S.1 29) (-1) (Int32.ofNat (r0 + p)) = e.2.2.1 := congrArg (fun x => x.2.2.1) hgr
  obtain ⟨w1, w2, w3, w4, w5, w6, w7⟩ := ct_wf_nd hw
  have hsz2 := hsz
  rw [ct_sz_nd] at hsz2
  obtain ⟨o1, o2, o3, o4⟩ := cu_ok_nd hok
  have hnw1 := (ct_nws_nd hnw).1
  have i1 : Int32.ofNat (r0 + p) + 1 = Int32.ofNat (r0 + (p + 1)) := cp_ad (b := 1)
  refine cx_41_0 _ ?_
  refine cp_8 (by decide) (cp_r1 ?_)
  rw [h1]
  -- a kind that needs nothing
  have none0 : (∀ v, cu_nq Q (cu_M U) (ct_nd e a b c) v = false) → K (.inl none) S 0 := fun hE => k S cf_rfl rfl (by rw [funext hE]; exact hsb)
  have fst : ¬ a = .leaf → ∀ (K2 : cm_K), (∀ S2, cf_W (cW_ds p (p + 1)) S S2 → S2.1 = S.1 → ck_sb S2 p (fun v => cu_nq Q (cu_M U) a v) → K2 (.inl none) S2 0) → cm_At (am_XX L xs) (d + 3) 44 0 [some (.ref 33), some (.int (Int32.ofNat (r0 + p))), some (.int (Int32.ofNat (r0 + (p + 1)))), none, none] [] S K2 := fun ha K2 k2 => by
    have := ct_sz_ne w5 ha
    exact cp_44 h4 (by omega) (by omega) (by omega) (fun S2 c2 e2 s2 => k2 S2 c2 e2 (s2 _ _ hsb (ck_sa_sb w5 ha sa1)))
  have snd : ¬ a = .leaf → ¬ b = .leaf → ∀ (S1 : cm_S) (f : Nat → Bool) (K2 : cm_K), cf_W (cW_ds p (p + 1)) S S1 → S1.1 = S.1 → ck_sb S1 p f → (∀ S2, cf_W (cW_ds p (p + 1)) S S2 → S2.1 = S.1 → ck_sb S2 p (fun v => f v || cu_nq Q (cu_M U) b v) → K2 (.inl none) S2 0) → cm_At (am_XX L xs) (d + 3) 44 0 [some (.ref 33), some (.int (Int32.ofNat (r0 + p))), some (.int (Int32.ofNat (r0 + (p + 1 + ct_sz a)))), none, none] [] S1 K2 := fun ha hb S1 f K2 c1 e1 s1 k2 => by
    have := ct_sz_ne w6 hb
    exact cp_44 (by rw [e1]; exact h4) (by omega) (by omega) (by omega) (fun S2 c2 e2 s2 => k2 S2 (cf_tr c1 c2) (e2.trans e1) (s2 _ _ s1 (ck_sa_sb w6 hb (ck_sa_cf c1 b w6 _ (fun j q1 q2 => decide_eq_false (by omega)) sa2))))
  have i15 : ¬ a = .leaf → ∀ {S1 : cm_S}, S1.1 = S.1 → cp_en S1 27 (Int32.ofNat (r0 + p) + 1) = Int32.ofNat (r0 + (p + 1 + ct_sz a)) := fun ha S1 e1 => by
    have := cp_2nd (S := S) (a := 27) (by decide) ht hw ha
    unfold cp_en at this ⊢
    rw [e1, this]
    rw [show r0 + p + 1 + ct_sz a = r0 + (p + 1 + ct_sz a) by omega]
  have i16 : ¬ a = .leaf → ¬ b = .leaf → ∀ {S1 : cm_S}, S1.1 = S.1 → cp_en S1 27 (cp_en S1 27 (Int32.ofNat (r0 + p) + 1)) = Int32.ofNat (r0 + (p + 1 + ct_sz a + ct_sz b)) := fun ha hb S1 e1 => by
    have := cp_3rd (S := S) (a := 27) (by decide) ht hw ha hb
    unfold cp_en at this ⊢
    rw [e1, this]
    rw [show r0 + p + 1 + ct_sz a + ct_sz b = r0 + (p + 1 + ct_sz a + ct_sz b) by omega]
  rcases ct_kinds w1 with hk | hk | hk | hk | hk | hk | hk | hk | hk | hk | hk | hk | hk | hk
  all_goals rw [hk]
  all_goals repeat refine ⟨fun h => absurd h (by decide), fun _ => ?_⟩
  · exact none0 (fun v => by show (cu_n2 _ _ _ _).1 = _; rw [cu_n2_nd, hk]; rfl)
  · refine ⟨fun _ => ?_, fun h => absurd (by decide) h⟩
    obtain ⟨v, hv, hv2, hv3⟩ := ct_nws_v hnw1 (Or.inl hk) o1
    refine cp_9 (by decide) (cp_r1 ?_)
    rw [hn1, hv2]
    refine cp_43 h4 (by omega) hv (fun S2 c2 e2 s2 => cp_r0 ?_)
    refine k S2 c2 e2 ?_
    have hE : ∀ u, cu_nq Q (cu_M U) (ct_nd e a b c) u = decide (e.2.2.1 = Int32.ofNat u) := fun u => by show (cu_n2 _ _ _ _).1 = _; rw [cu_n2_nd, if_pos hk]
    intro w b2 hw2 hb2
    rw [s2 hsb w b2 hw2 hb2, hE, hv2]
    refine decide_eq_decide.mpr ?_
    rw [cp_inj (by omega) (by omega)]
  · exact ⟨fun _ => none0 (fun v => by show (cu_n2 _ _ _ _).1 = _; rw [cu_n2_nd, hk]; rfl), fun h => absurd (by decide) h⟩
  · exact ⟨fun _ => none0 (fun v => by show (cu_n2 _ _ _ _).1 = _; rw [cu_n2_nd, hk]; rfl), fun h => absurd (by decide) h⟩
  · refine ⟨fun _ => ?_, fun h => absurd (by decide) h⟩
    obtain ⟨pa, pb, pc⟩ := ct_q2 hw (Or.inl hk)
    refine cp_14 (by decide) (cp_r1 ?_)
    rw [i1]
    refine fst pa _ (fun S1 c1 e1 s1 => cp_r0 ?_)
    refine cp_42 (U := U) (ck_d_fr c1 (fun b j q1 q2 => decide_eq_false (by omega)) hd) hU hQ hw hk (by rw [e1]; exact h4) (fun g hg => by rw [e1]; exact hq g hg) (ck_t_cf c1 (fun b j q1 q2 _ _ => decide_eq_false (by omega)) ht) hnu hsz s1 (ck_sa_cf c1 a w5 _ (fun j q1 q2 => decide_eq_false (by omega)) sa1) (ck_sa_cf c1 b w6 _ (fun j q1 q2 => decide_eq_false (by omega)) sa2) (fun S2 c2 e2 s2 => cp_r0 ?_)
    refine k S2 (cf_tr c1 c2) (e2.trans e1) ?_
    have hE : ∀ v, (cu_nq Q (cu_M U) a v || (cu_gM (cu_M U) (cu_ar a + 1) (cu_gl a) && (cu_n2 Q (cu_M U) (ct_nd e a b c) v).2)) = cu_nq Q (cu_M U) (ct_nd e a b c) v := fun v => by
      show _ = (cu_n2 _ _ _ _).1
      rw [cu_n2_nd, if_neg (by rw [hk]; decide), if_pos hk]
    rw [← funext hE]
    exact s2
  · refine ⟨fun _ => ?_, fun h => absurd (by decide) h⟩
    obtain ⟨pa, pb, pc⟩ := ct_q2 hw (Or.inr (Or.inl hk))
    obtain ⟨v, hv, hv2, hv3⟩ := ct_nws_v hnw1 (Or.inr hk) o1
    have hE : ∀ u, cu_nq Q (cu_M U) (ct_nd e a b c) u = ((cu_nq Q (cu_M U) b u) || ((cu_nq Q (cu_M U) b v) && (cu_nq Q (cu_M U) a u))) := fun u => by show (cu_n2 _ _ _ _).1 = _; rw [cu_n2_nd, if_neg (by rw [hk]; decide), if_neg (by rw [hk]; decide), if_pos hk, hv3]
    have sb0 := ct_sz_ne w6 pb
    refine cp_15 (by decide) (cp_r1 ?_)
    rw [i15 pa rfl]
    refine snd pa pb S _ _ cf_rfl rfl hsb (fun S1 c1 e1 s1 => cp_r0 ?_)
    refine cp_15 (by decide) (cp_r1 ?_)
    rw [i15 pa e1]
    rintro _ rfl
    refine cp_9 (by decide) (cp_r1 ?_)
    rw [e1, hn1, h4, hv2, cp_sb (by omega), show r0 + (p + 1 + ct_sz a) - r0 = p + 1 + ct_sz a by omega]
    refine cp_40 (by omega) hv (ck_sa_sb w6 pb (ck_sa_cf c1 b w6 _ (fun j q1 q2 => decide_eq_false (by omega)) sa2)) (cp_r1 ?_)
    cases hb : cu_nq Q (cu_M U) b v with
    | false =>
      rw [if_neg (fun hc => Bool.noConfusion (hb.symm.trans hc))]
      refine ⟨fun _ => k S1 c1 e1 ?_, fun h => absurd rfl h⟩
      have hE2 : ∀ u, cu_nq Q (cu_M U) (ct_nd e a b c) u = (false || cu_nq Q (cu_M U) b u) := fun u => by rw [hE, hb, Bool.false_and, Bool.or_false, Bool.false_or]
      rw [funext hE2]
      exact s1
    | true =>
      rw [if_pos hb]
      refine ⟨fun h => absurd h (by decide), fun _ => ?_⟩
      refine cp_14 (by decide) (cp_r1 ?_)
      rw [i1]
      have sa0 := ct_sz_ne w5 pa
      refine cp_44 (by rw [e1]; exact h4) (by omega) (by omega) (by omega) (fun S2 c2 e2 s2 => cp_r0 ?_)
      refine k S2 (cf_tr c1 c2) (e2.trans e1) ?_
      have hE2 : ∀ u, cu_nq Q (cu_M U) (ct_nd e a b c) u = ((false || cu_nq Q (cu_M U) b u) || cu_nq Q (cu_M U) a u) := fun u => by rw [hE, hb, Bool.true_and, Bool.false_or]
      rw [funext hE2]
      exact s2 _ _ s1 (ck_sa_sb w5 pa (ck_sa_cf c1 a w5 _ (fun j q1 q2 => decide_eq_false (by omega)) sa1))
  · refine ⟨fun _ => ?_, fun h => absurd (by decide) h⟩
    obtain ⟨pa, pb, pc⟩ := ct_q2 hw (Or.inr (Or.inr (Or.inl hk)))
    refine cp_15 (by decide) (cp_r1 ?_)
    rw [i15 pa rfl]
    refine snd pa pb S _ _ cf_rfl rfl hsb (fun S1 c1 e1 s1 => cp_r0 ?_)
    refine k S1 c1 e1 ?_
    have hE : ∀ u, cu_nq Q (cu_M U) (ct_nd e a b c) u = (false || cu_nq Q (cu_M U) b u) := fun u => by show (cu_n2 _ _ _ _).1 = _; rw [cu_n2_nd, hk]; rfl
    rw [funext hE]
    exact s1
  · refine ⟨fun _ => ?_, fun h => absurd (by decide) h⟩
    obtain ⟨pa, pb, pc⟩ := ct_q2 hw (Or.inr (Or.inr (Or.inr (Or.inl hk))))
    refine cp_14 (by decide) (cp_r1 ?_)
    rw [i1]
    refine fst pa _ (fun S1 c1 e1 s1 => cp_r0 ?_)
    refine cp_15 (by decide) (cp_r1 ?_)
    rw [i15 pa e1]
    refine snd pa pb S1 _ _ c1 e1 s1 (fun S2 c2 e2 s2 => cp_r0 ?_)
    refine k S2 c2 e2 ?_
    have hE : ∀ u, cu_nq Q (cu_M U) (ct_nd e a b c) u = (cu_nq Q (cu_M U) a u || cu_nq Q (cu_M U) b u) := fun u => by show (cu_n2 _ _ _ _).1 = _; rw [cu_n2_nd, hk]; rfl
    rw [funext hE]
    exact s2
  · refine ⟨fun _ => ?_, fun h => absurd (by decide) h⟩
    obtain ⟨pa, pb, pc⟩ := ct_q2 hw (Or.inr (Or.inr (Or.inr (Or.inr (Or.inl hk)))))
    refine cp_14 (by decide) (cp_r1 ?_)
    rw [i1]
    refine fst pa _ (fun S1 c1 e1 s1 => cp_r0 ?_)
    refine cp_15 (by decide) (cp_r1 ?_)
    rw [i15 pa e1]
    refine snd pa pb S1 _ _ c1 e1 s1 (fun S2 c2 e2 s2 => cp_r0 ?_)
    refine k S2 c2 e2 ?_
    have hE : ∀ u, cu_nq Q (cu_M U) (ct_nd e a b c) u = (cu_nq Q (cu_M U) a u || cu_nq Q (cu_M U) b u) := fun u => by show (cu_n2 _ _ _ _).1 = _; rw [cu_n2_nd, hk]; rfl
    rw [funext hE]
    exact s2
  · exact ⟨fun _ => none0 (fun v => by show (cu_n2 _ _ _ _).1 = _; rw [cu_n2_nd, hk]; rfl), fun h => absurd (by decide) h⟩
  · exact ⟨fun _ => none0 (fun v => by show (cu_n2 _ _ _ _).1 = _; rw [cu_n2_nd, hk]; rfl), fun h => absurd (by decide) h⟩
  · refine ⟨fun _ => ?_, fun h => absurd (by decide) h⟩
    obtain ⟨pa, pb, pc⟩ := ct_q3 hw (Or.inl hk)
    have sb0 := ct_sz_ne w6 pb
    have sc0 := ct_sz_ne w7 pc
    refine cp_14 (by decide) (cp_r1 ?_)
    rw [i1]
    refine fst pa _ (fun S1 c1 e1 s1 => cp_r0 ?_)
    refine cp_15 (by decide) (cp_r1 ?_)
    rw [i15 pa e1]
    refine cp_16 (by decide) (cp_r1 ?_)
    rw [i16 pa pb e1]
    refine cp_45 (by rw [e1]; exact h4) (by omega) (by omega) (by omega) (by omega) (by omega) (fun S2 c2 e2 s2 => cp_r0 ?_)
    refine k S2 (cf_tr c1 c2) (e2.trans e1) ?_
    have hE : ∀ u, cu_nq Q (cu_M U) (ct_nd e a b c) u = (cu_nq Q (cu_M U) a u || (cu_nq Q (cu_M U) b u && cu_nq Q (cu_M U) c u)) := fun u => by show (cu_n2 _ _ _ _).1 = _; rw [cu_n2_nd, hk]; rfl
    rw [funext hE]
    exact s2 _ _ _ s1 (ck_sa_sb w6 pb (ck_sa_cf c1 b w6 _ (fun j q1 q2 => decide_eq_false (by omega)) sa2)) (ck_sa_sb w7 pc (ck_sa_cf c1 c w7 _ (fun j q1 q2 => decide_eq_false (by omega)) sa3))
  · refine ⟨fun _ => ?_, fun h => absurd (by decide) h⟩
    obtain ⟨pa, pb, pc⟩ := ct_q3 hw (Or.inr hk)
    have sb0 := ct_sz_ne w6 pb
    have sc0 := ct_sz_ne w7 pc
    refine cp_14 (by decide) (cp_r1 ?_)
    rw [i1]
    refine fst pa _ (fun S1 c1 e1 s1 => cp_r0 ?_)
    refine cp_15 (by decide) (cp_r1 ?_)
    rw [i15 pa e1]
    refine cp_16 (by decide) (cp_r1 ?_)
    rw [i16 pa pb e1]
    refine cp_45 (by rw [e1]; exact h4) (by omega) (by omega) (by omega) (by omega) (by omega) (fun S2 c2 e2 s2 => cp_r0 ?_)
    refine k S2 (cf_tr c1 c2) (e2.trans e1) ?_
    have hE : ∀ u, cu_nq Q (cu_M U) (ct_nd e a b c) u = (cu_nq Q (cu_M U) a u || (cu_nq Q (cu_M U) b u && cu_nq Q (cu_M U) c u)) := fun u => by show (cu_n2 _ _ _ _).1 = _; rw [cu_n2_nd, hk]; rfl
    rw [funext hE]
    exact s2 _ _ _ s1 (ck_sa_sb w6 pb (ck_sa_cf c1 b w6 _ (fun j q1 q2 => decide_eq_false (by omega)) sa2)) (ck_sa_sb w7 pc (ck_sa_cf c1 c w7 _ (fun j q1 q2 => decide_eq_false (by omega)) sa3))
  · refine ⟨fun _ => ?_, fun h => absurd (by decide) h⟩
    obtain ⟨pa, pb, pc⟩ := ct_q1 hw (Or.inr hk)
    refine cp_14 (by decide) (cp_r1 ?_)
    rw [i1]
    refine fst pa _ (fun S1 c1 e1 s1 => cp_r0 ?_)
    refine k S1 c1 e1 ?_
    have hE : ∀ u, cu_nq Q (cu_M U) (ct_nd e a b c) u = cu_nq Q (cu_M U) a u := fun u => by show (cu_n2 _ _ _ _).1 = _; rw [cu_n2_nd, hk]; rfl
    rw [funext hE]
    exact s1
end CP75
