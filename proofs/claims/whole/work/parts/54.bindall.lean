/-! ## 54 the class binds the names of a node: the loop -/
section CP54
variable {L : Nat} {xs : Nat → Int32} {d : Nat} {S : cm_S} {K : cm_K} {N : List ct_E}
theorem ck_n_g {i : Nat} {e : ct_E} (hn : ck_n S N) (he : N[i]? = some e) : i < 120 ∧ cp_g (cm_cap 2) (S.1 (2 + 1)) 0 (Int32.ofNat i) = e.1 ∧ cp_g (cm_cap 2) (S.1 (2 + 2)) (-1) (Int32.ofNat i) = e.2.2.1 ∧ cp_g (cm_cap 2) (S.1 (2 + 3)) (-1) (Int32.ofNat i) = e.2.2.2.1 ∧ cp_g (cm_cap 2) (S.2 (2 + 4)) 0 (Int32.ofNat i) = e.2.1 := by
  have hi : i < N.length := (List.getElem?_eq_some_iff.mp he).1
  have hl := hn.1
  obtain ⟨h1, h2, h3, h4, _⟩ := hn.2.2 i e he
  have hc : i < cm_cap 2 := by show i < 120; omega
  have hb : cm_cap 2 < 2147483648 := by decide +kernel
  rw [cp_g_at hc hb, cp_g_at hc hb, cp_g_at hc hb, cp_g_at hc hb]
  exact ⟨by omega, h1, h3, h4, h2⟩
theorem ck_n_cf {W : Nat → Nat → Bool} {S2 : cm_S} (hc : cf_W W S S2) (hd : ∀ b j, 1 ≤ b → b ≤ 8 → W b j = false) (h : ck_n S N) : ck_n S2 N := by
  refine ⟨h.1, by rw [(hc 1 2 (hd _ _ (by omega) (by omega))).1]; exact h.2.1, fun i e he => ?_⟩
  obtain ⟨h1, h2, h3, h4, h5, h6, h7, h8⟩ := h.2.2 i e he
  rw [(hc 3 i (hd _ _ (by omega) (by omega))).1, (hc 6 i (hd _ _ (by omega) (by omega))).2, (hc 4 i (hd _ _ (by omega) (by omega))).1, (hc 5 i (hd _ _ (by omega) (by omega))).1, (hc 8 (3 * i) (hd _ _ (by omega) (by omega))).1, (hc 8 (3 * i + 1) (hd _ _ (by omega) (by omega))).1, (hc 8 (3 * i + 2) (hd _ _ (by omega) (by omega))).1, (hc 7 i (hd _ _ (by omega) (by omega))).1]
  exact ⟨h1, h2, h3, h4, h5, h6, h7, h8⟩
theorem cp_2v {i p cnt n : Nat} {e : ct_E} {s : Int32} {σ : Int32 → Int32} (hn : ck_n S N) (he : N[i]? = some e) (hk : e.1 = 2) (hch : ck_ch S cnt n s σ) (hcnt : cnt ≤ 160) (hp : p < 80) (hnum : e.2.1 = 0)
    (k : K (.inl (some (.int (if σ e.2.2.1 = -1 then 0 else 1)))) (cp_putD S 10 (Int32.ofNat p) (e.1, e.2.1, σ e.2.2.1, -1)) 0) :
    cm_At (am_XX L xs) (d + 4) 2 0 [some (.ref 9), some (.int (Int32.ofNat p)), some (.int (Int32.ofNat i)), some (.int s), none, none, none, none, none, none, none] [] S K := by
  obtain ⟨h120, g1, g2, g3, g4⟩ := ck_n_g hn he
  refine cz_2_0 _ _ _ ?_
  refine cp_8 (by decide) (cp_r1 ?_)
  rw [g1]
  refine cp_9 (by decide) (cp_r1 ?_)
  rw [g2]
  refine cp_10 (by decide) (cp_r1 ?_)
  rw [g3]
  refine ⟨fun _ => ?_, fun h => absurd hk h⟩
  refine cp_6 hch hcnt (cp_r1 ?_)
  refine cp_19 (by decide) (cp_r0 ?_)
  have e1 : cp_put S 10 (Int32.ofNat p) e.1 (σ e.2.2.1) (-1) 0 = cp_putD S 10 (Int32.ofNat p) (e.1, e.2.1, σ e.2.2.1, -1) := by unfold cp_putD; rw [hnum]
  rw [e1]
  refine ⟨fun h => ⟨Or.inl rfl, ?_⟩, fun h => ⟨Or.inr rfl, ?_⟩⟩
  · rw [if_pos h] at k; exact k
  · rw [if_neg h] at k; exact k
theorem cp_2n {i p cnt n : Nat} {e : ct_E} {s : Int32} {σ : Int32 → Int32} {l : List (Int32 × Int32)} (hn : ck_n S N) (he : N[i]? = some e) (hk : ¬ e.1 = 2) (hkk : 1 ≤ e.1.toInt ∧ e.1.toInt ≤ 14) (hch : ck_ch S cnt n s σ) (hc : S.1 9 8 = Int32.ofNat cnt) (hcnt : cnt + 2 ≤ 160) (hp : p < 80) (hs : ck_sk S l) (hl4 : S.1 9 4 = Int32.ofNat l.length) (hll : l.length + 3 ≤ 240)
    (k : ∀ S2 s2 n2 cnt2, cnt ≤ cnt2 → cnt2 ≤ cnt + 2 → S2.1 9 8 = Int32.ofNat cnt2 → ck_ch S2 cnt2 n2 s2 (ct_us (ct_us σ e.2.2.1 (Int32.ofNat (2 * p))) e.2.2.2.1 (Int32.ofNat (2 * p + 1))) → ck_ch S2 cnt n s σ → S2.1 9 4 = Int32.ofNat (l.length + ct_ar e.1) → ck_sk S2 (ct_pl (fun m => (S.1 8 (3 * i + m), if ct_is1 e.1 (Int32.ofNat m) = true then s2 else s)) (ct_ar e.1) l) → cp_row S2 10 p = (e.1, e.2.1, (if e.2.2.1 = -1 then -1 else Int32.ofNat (2 * p)), (if e.2.2.2.1 = -1 then -1 else Int32.ofNat (2 * p + 1))) → cf_W (fun b j => cW_bp p l.length cnt b j && (!decide (11 ≤ b ∧ b ≤ 15) || decide (j = p))) S S2 → K (.inl (some (.int 1))) S2 0) :
    cm_At (am_XX L xs) (d + 4) 2 0 [some (.ref 9), some (.int (Int32.ofNat p)), some (.int (Int32.ofNat i)), some (.int s), none, none, none, none, none, none, none] [] S K := by
  obtain ⟨h120, g1, g2, g3, g4⟩ := ck_n_g hn he
  have har := ct_ar_pt hkk
  have go : ∀ (vv ww : Int32) (K2 : cm_K), vv = (if e.2.2.1 = -1 then -1 else Int32.ofNat (2 * p)) → ww = (if e.2.2.2.1 = -1 then -1 else Int32.ofNat (2 * p + 1)) → (∀ S3 v, K (.inl v) S3 0 → K2 (.inl v) S3 0) → cm_At (am_XX L xs) (d + 4) 2 112 [some (.ref 9), some (.int (Int32.ofNat p)), some (.int (Int32.ofNat i)), some (.int s), some (.int e.1), some (.int e.2.2.1), some (.int e.2.2.2.1), some (.int vv), some (.int ww), none, none] [] S K2 := by
    intro vv ww K2 hv hw hK
    have us : ∀ {τ : Int32 → Int32} {x y z : Int32}, y = (if x = -1 then -1 else z) → ct_us τ x y = ct_us τ x z := fun {τ x y z} hy => by
      by_cases hx : x = -1
      · rw [hx, ct_us_m1, ct_us_m1]
      · rw [if_neg hx] at hy; rw [hy]
    refine cz_2_112 _ _ _ _ _ _ _ _ ?_
    refine cp_11 (by decide) (cp_r2 ?_)
    rw [g4]
    refine cp_19 (by decide) (cp_r0 ?_)
    have e1 : cp_put S 10 (Int32.ofNat p) e.1 vv ww e.2.1 = cp_putD S 10 (Int32.ofNat p) (e.1, e.2.1, vv, ww) := rfl
    rw [e1]
    have hp80 : p < cm_cap 10 := hp
    have c1 : cf_W (fun b j => decide (11 ≤ b ∧ b ≤ 15 ∧ j = p)) S (cp_putD S 10 (Int32.ofNat p) (e.1, e.2.1, vv, ww)) := cp_putD_cf (fun b q1 q2 => decide_eq_true (by omega)) (by omega)
    have c1n : ∀ {b j : Nat}, ¬ (11 ≤ b ∧ b ≤ 15) → decide (11 ≤ b ∧ b ≤ 15 ∧ j = p) = false := fun h => decide_eq_false (by omega)
    refine cp_5 (ck_ch_cf c1 (fun d j q1 q2 q3 => c1n (by omega)) hch) (by rw [(c1 9 8 (c1n (by omega))).1]; exact hc) (by omega) (fun S2 s2 n2 cnt2 a1 a2 a3 a4 a5 => cp_r1 ?_)
    refine cp_5 a4 a3 (by omega) (fun S3 s3 n3 cnt3 b1 b2 b3 b4 b5 => cp_r1 ?_)
    refine cp_166p (cp_r1 ?_)
    rw [har.1]
    have f9 : S3.1 9 4 = S.1 9 4 := by rw [(b5 9 4 (decide_eq_false (by omega))).1, (a5 9 4 (decide_eq_false (by omega))).1, (c1 9 4 (c1n (by omega))).1]
    have f8 : ∀ m, S3.1 8 m = S.1 8 m := fun m => by rw [(b5 8 m (decide_eq_false (by omega))).1, (a5 8 m (decide_eq_false (by omega))).1, (c1 8 m (c1n (by omega))).1]
    have sk3 : ck_sk S3 l := ck_sk_cf b5 (fun d j q1 q2 q3 => decide_eq_false (by omega)) (ck_sk_cf a5 (fun d j q1 q2 q3 => decide_eq_false (by omega)) (ck_sk_cf c1 (fun d j q1 q2 q3 => c1n (by omega)) hs))
    refine cp_2l h120 (ct_ar e.1) l S3 _ (by omega) (by omega) (by rw [f9]; exact hl4) sk3 (fun S4 q4 q5 q6 => ?_)
    have q6n : ∀ {b j : Nat}, ¬ b = 9 → ¬ (16 ≤ b ∧ b ≤ 17) → cW_sk l.length b j = false := fun h1 h2 => decide_eq_false (by omega)
    have f88 : (fun m => (S3.1 8 (3 * i + m), if ct_is1 e.1 (Int32.ofNat m) = true then s3 else s)) = (fun m => (S.1 8 (3 * i + m), if ct_is1 e.1 (Int32.ofNat m) = true then s3 else s)) := by
      funext m; rw [f8]
    rw [f88] at q5
    rw [us hv, us hw] at b4
    have hrow1 : cp_row (cp_putD S 10 (Int32.ofNat p) (e.1, e.2.1, vv, ww)) 10 p = (e.1, e.2.1, vv, ww) := by rw [cp_putD_row hp80 (by omega), if_pos rfl]
    refine hK S4 _ (k S4 s3 n3 cnt3 (by omega) (by omega) (by rw [(q6 9 8 (decide_eq_false (by omega))).1]; exact b3) (ck_ch_cf q6 (fun d j q1 q2 q3 => q6n (by omega) (by omega)) b4) ?_ q4 q5 ?_ ?_)
    · refine ck_ch_cf q6 (fun d j q1 q2 q3 => q6n (by omega) (by omega)) ?_
      refine ck_ch_cf b5 (fun d j q1 q2 q3 => decide_eq_false (by omega)) ?_
      refine ck_ch_cf a5 (fun d j q1 q2 q3 => decide_eq_false (by omega)) ?_
      exact ck_ch_cf c1 (fun d j q1 q2 q3 => c1n (by omega)) hch
    · have r : ∀ b, 11 ≤ b → b ≤ 15 → S4.1 b p = (cp_putD S 10 (Int32.ofNat p) (e.1, e.2.1, vv, ww)).1 b p ∧ S4.2 b p = (cp_putD S 10 (Int32.ofNat p) (e.1, e.2.1, vv, ww)).2 b p := fun b h1 h2 => by
        have z1 := q6 b p (q6n (by omega) (by omega))
        have z2 := b5 b p (decide_eq_false (by omega))
        have z3 := a5 b p (decide_eq_false (by omega))
        exact ⟨z1.1.trans (z2.1.trans z3.1), z1.2.trans (z2.2.trans z3.2)⟩
      rw [← hv, ← hw, ← hrow1]
      unfold cp_row
      rw [(r 11 (by omega) (by omega)).1, (r 14 (by omega) (by omega)).2, (r 12 (by omega) (by omega)).1, (r 13 (by omega) (by omega)).1]
    · have mk : ∀ {b j : Nat}, (b = 9 ∨ (11 ≤ b ∧ b ≤ 15 ∧ j = p) ∨ (16 ≤ b ∧ b ≤ 17 ∧ l.length ≤ j) ∨ (18 ≤ b ∧ b ≤ 20 ∧ cnt ≤ j)) → (cW_bp p l.length cnt b j && (!decide (11 ≤ b ∧ b ≤ 15) || decide (j = p))) = true := fun {b j} h => by
        unfold cW_bp
        simp only [Bool.and_eq_true, Bool.or_eq_true, Bool.not_eq_true', decide_eq_true_eq, decide_eq_false_iff_not]
        omega
      refine cf_tr (cf_mono c1 (fun b j h => mk ?_)) (cf_tr (cf_mono a5 (fun b j h => mk ?_)) (cf_tr (cf_mono b5 (fun b j h => mk ?_)) (cf_mono q6 (fun b j h => mk ?_))))
      all_goals
        have h := of_decide_eq_true h
        omega
  have go95 : ∀ (vv : Int32) (K2 : cm_K), vv = (if e.2.2.1 = -1 then -1 else Int32.ofNat (2 * p)) → (∀ S3 v, K (.inl v) S3 0 → K2 (.inl v) S3 0) → cm_At (am_XX L xs) (d + 4) 2 95 [some (.ref 9), some (.int (Int32.ofNat p)), some (.int (Int32.ofNat i)), some (.int s), some (.int e.1), some (.int e.2.2.1), some (.int e.2.2.2.1), some (.int vv), none, none, none] [] S K2 := by
    intro vv K2 hv hK
    refine cz_2_95 _ _ _ _ _ _ _ ⟨fun h => go vv _ K2 hv (if_pos h).symm hK, fun h => ?_⟩
    rw [show (2 : Int32) = Int32.ofNat 2 from rfl, show (1 : Int32) = Int32.ofNat 1 from rfl, cp_ml, cp_ad]
    exact go vv _ K2 hv (if_neg h).symm hK
  refine cz_2_0 _ _ _ ?_
  refine cp_8 (by decide) (cp_r1 ?_)
  rw [g1]
  refine cp_9 (by decide) (cp_r1 ?_)
  rw [g2]
  refine cp_10 (by decide) (cp_r1 ?_)
  rw [g3]
  refine ⟨fun h => absurd h hk, fun _ => ⟨fun h => ?_, fun h => ?_⟩⟩
  · exact go95 _ _ (if_pos h).symm (fun S3 v h => h)
  · rw [show (2 : Int32) = Int32.ofNat 2 from rfl, cp_ml]
    exact go95 _ _ (if_neg h).symm (fun S3 v h => h)
end CP54
