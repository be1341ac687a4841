/-! ## 73 Demand: what is needed in the nodes of a core -/
/-- the set of a place -/
def ck_sb (S : cm_S) (p : Nat) (f : Nat → Bool) : Prop := ∀ w b, w < 3 → b < 64 → cu_b (S.2 34 (3 * p + w)) b = f (64 * w + b)
/-- the sets of all places of a tree -/
def ck_sa (Q : Nat → Nat → Bool) (M : Nat → Nat) (S : cm_S) : ct_T → Nat → Prop
  | .inner n e u a (.inner m e2 u2 b c), p => ck_sb S p (cu_nq Q M (.inner n e u a (.inner m e2 u2 b c))) ∧ ck_sa Q M S a (p + 1) ∧ ck_sa Q M S b (p + 1 + ct_sz a) ∧ ck_sa Q M S c (p + 1 + ct_sz a + ct_sz b)
  | _, _ => True
theorem ck_sa_nd {Q : Nat → Nat → Bool} {M : Nat → Nat} {S : cm_S} {e : ct_D} {a b c : ct_T} {p : Nat} : ck_sa Q M S (ct_nd e a b c) p ↔ ck_sb S p (cu_nq Q M (ct_nd e a b c)) ∧ ck_sa Q M S a (p + 1) ∧ ck_sa Q M S b (p + 1 + ct_sz a) ∧ ck_sa Q M S c (p + 1 + ct_sz a + ct_sz b) := Iff.rfl
def cW_ds (lo hi b j : Nat) : Bool := decide (b = 34 ∧ 3 * lo ≤ j ∧ j < 3 * hi)
theorem ck_sb_cf {W : Nat → Nat → Bool} {S S2 : cm_S} {p : Nat} {f : Nat → Bool} (hc : cf_W W S S2) (hd : ∀ j, 3 * p ≤ j → j < 3 * p + 3 → W 34 j = false) (h : ck_sb S p f) : ck_sb S2 p f := fun w b hw hb => by
  rw [(hc 34 (3 * p + w) (hd _ (by omega) (by omega))).2]
  exact h w b hw hb
theorem ck_sa_cf {Q : Nat → Nat → Bool} {M : Nat → Nat} {W : Nat → Nat → Bool} {S S2 : cm_S} (hc : cf_W W S S2) : ∀ t, ct_wf t → ∀ p, (∀ j, 3 * p ≤ j → j < 3 * (p + ct_sz t) → W 34 j = false) → ck_sa Q M S t p → ck_sa Q M S2 t p :=
  ct_ind (fun p _ h => h) (fun e a b c hw iha ihb ihc p hd h => by
    rw [ck_sa_nd] at h ⊢
    rw [ct_sz_nd] at hd
    exact ⟨ck_sb_cf hc (fun j q1 q2 => hd j q1 (by omega)) h.1, iha _ (fun j q1 q2 => hd j (by omega) (by omega)) h.2.1, ihb _ (fun j q1 q2 => hd j (by omega) (by omega)) h.2.2.1, ihc _ (fun j q1 q2 => hd j (by omega) (by omega)) h.2.2.2⟩)
theorem cu_rl : cm_rl 34 = 450 ∧ cm_rl 35 = 8 ∧ cm_rl 36 = 8 ∧ cm_cap 27 = 1200 := by decide +kernel
/-- the second and the third part's place -/
theorem cp_2nd {S : cm_S} {a r : Nat} {e : ct_D} {x y z : ct_T} (ha : a ∈ cm_codes) (h : ck_t S a r (ct_nd e x y z)) (hw : ct_wf (ct_nd e x y z)) (hx : ¬ x = .leaf) : cp_en S a (Int32.ofNat r + 1) = Int32.ofNat (r + 1 + ct_sz x) := by
  rw [ck_t_nd] at h
  rw [show Int32.ofNat r + 1 = Int32.ofNat (r + 1) from cp_ad (b := 1)]
  exact cp_en_t ha h.2.2.2.1 (ct_wf_nd hw).2.2.2.2.1 hx
theorem cp_3rd {S : cm_S} {a r : Nat} {e : ct_D} {x y z : ct_T} (ha : a ∈ cm_codes) (h : ck_t S a r (ct_nd e x y z)) (hw : ct_wf (ct_nd e x y z)) (hx : ¬ x = .leaf) (hy : ¬ y = .leaf) : cp_en S a (cp_en S a (Int32.ofNat r + 1)) = Int32.ofNat (r + 1 + ct_sz x + ct_sz y) := by
  rw [cp_2nd ha h hw hx]
  rw [ck_t_nd] at h
  exact cp_en_t ha h.2.2.2.2.1 (ct_wf_nd hw).2.2.2.2.2.1 hy
theorem ct_ar_of {k : Int32} : ((k = 5 ∨ k = 6 ∨ k = 7 ∨ k = 8 ∨ k = 9 ∨ k = 11) → ct_ar k = 2) ∧ ((k = 12 ∨ k = 13) → ct_ar k = 3) ∧ ((k = 4 ∨ k = 14) → ct_ar k = 1) ∧ ((k = 1 ∨ k = 2 ∨ k = 3 ∨ k = 10) → ct_ar k = 0) := by
  refine ⟨fun h => ?_, fun h => ?_, fun h => ?_, fun h => ?_⟩
  · rcases h with rfl | rfl | rfl | rfl | rfl | rfl <;> decide +kernel
  · rcases h with rfl | rfl <;> decide +kernel
  · rcases h with rfl | rfl <;> decide +kernel
  · rcases h with rfl | rfl | rfl | rfl <;> decide +kernel
/-- which parts are there -/
theorem ct_q2 {e : ct_D} {a b c : ct_T} (hw : ct_wf (ct_nd e a b c)) (h : e.1 = 5 ∨ e.1 = 6 ∨ e.1 = 7 ∨ e.1 = 8 ∨ e.1 = 9 ∨ e.1 = 11) : ¬ a = .leaf ∧ ¬ b = .leaf ∧ c = .leaf := by
  obtain ⟨w1, w2, w3, w4, w5, w6, w7⟩ := ct_wf_nd hw
  rw [ct_ar_of.1 h] at w2 w3 w4
  exact ⟨fun hc => absurd (w2.mp hc) (by omega), fun hc => absurd (w3.mp hc) (by omega), w4.mpr (by omega)⟩
theorem ct_q3 {e : ct_D} {a b c : ct_T} (hw : ct_wf (ct_nd e a b c)) (h : e.1 = 12 ∨ e.1 = 13) : ¬ a = .leaf ∧ ¬ b = .leaf ∧ ¬ c = .leaf := by
  obtain ⟨w1, w2, w3, w4, w5, w6, w7⟩ := ct_wf_nd hw
  rw [ct_ar_of.2.1 h] at w2 w3 w4
  exact ⟨fun hc => absurd (w2.mp hc) (by omega), fun hc => absurd (w3.mp hc) (by omega), fun hc => absurd (w4.mp hc) (by omega)⟩
theorem ct_q1 {e : ct_D} {a b c : ct_T} (hw : ct_wf (ct_nd e a b c)) (h : e.1 = 4 ∨ e.1 = 14) : ¬ a = .leaf ∧ b = .leaf ∧ c = .leaf := by
  obtain ⟨w1, w2, w3, w4, w5, w6, w7⟩ := ct_wf_nd hw
  rw [ct_ar_of.2.2.1 h] at w2 w3 w4
  exact ⟨fun hc => absurd (w2.mp hc) (by omega), w3.mpr (by omega), w4.mpr (by omega)⟩
theorem ct_q0 {e : ct_D} {a b c : ct_T} (hw : ct_wf (ct_nd e a b c)) (h : e.1 = 1 ∨ e.1 = 2 ∨ e.1 = 3 ∨ e.1 = 10) : a = .leaf ∧ b = .leaf ∧ c = .leaf := by
  obtain ⟨w1, w2, w3, w4, w5, w6, w7⟩ := ct_wf_nd hw
  rw [ct_ar_of.2.2.2 h] at w2 w3 w4
  exact ⟨w2.mpr (by omega), w3.mpr (by omega), w4.mpr (by omega)⟩
section CP73
variable {L : Nat} {xs : Nat → Int32} {d : Nat}
theorem cu_pl {S : cm_S} {r0 p : Nat} (h4 : S.1 33 4 = Int32.ofNat r0) (w : Nat) : (Int32.ofNat (r0 + p) - S.1 33 4) * 3 + Int32.ofNat w = Int32.ofNat (3 * p + w) := by
  rw [h4, cp_sb (by omega), show r0 + p - r0 = p by omega, show (3 : Int32) = Int32.ofNat 3 from rfl, cp_ml, cp_ad, Nat.mul_comm p 3]
/-- one set is added to another -/
theorem cp_44 {S : cm_S} {K : cm_K} {r0 p q : Nat} (h4 : S.1 33 4 = Int32.ofNat r0) (hp : p < 150) (hq : q < 150) (hne : ¬ p = q)
    (k : ∀ S2, cf_W (cW_ds p (p + 1)) S S2 → S2.1 = S.1 → (∀ f g, ck_sb S p f → ck_sb S q g → ck_sb S2 p (fun v => f v || g v)) → K (.inl none) S2 0) :
    cm_At (am_XX L xs) (d + 2) 44 0 [some (.ref 33), some (.int (Int32.ofNat (r0 + p))), some (.int (Int32.ofNat (r0 + q))), none, none] [] S K := by
  refine cx_44_0 _ _ ?_
  have st : ∀ (w : Nat) (S : cm_S) (o4 : Option Value) (K : cm_K), w < 3 → S.1 33 4 = Int32.ofNat r0 → (∀ o4, cm_At (am_XX L xs) (d + 2) 44 2 [some (.ref 33), some (.int (Int32.ofNat (r0 + p))), some (.int (Int32.ofNat (r0 + q))), some (.int (Int32.ofNat (w + 1))), o4] [] (cm_wJ S 34 (3 * p + w) (S.2 34 (3 * p + w) ||| S.2 34 (3 * q + w))) K) → cm_At (am_XX L xs) (d + 2) 44 2 [some (.ref 33), some (.int (Int32.ofNat (r0 + p))), some (.int (Int32.ofNat (r0 + q))), some (.int (Int32.ofNat w)), o4] [] S K := by
    intro w S o4 K hw h4 k
    refine cx_44_2 _ _ _ _ ⟨fun _ => ?_, fun h => absurd ?_ h⟩
    · rintro _ rfl
      rw [cu_pl h4]
      refine cp_168 (by decide) (cp_r2 ?_)
      rw [cp_g_at (by rw [cu_rl.1]; omega) (by decide +kernel)]
      rintro _ rfl
      rw [cu_pl h4]
      refine cp_168 (by decide) (cp_r2 ?_)
      rw [cp_g_at (by rw [cu_rl.1]; omega) (by decide +kernel)]
      refine cp_169 (by decide) (cp_r0 ?_)
      rw [cp_wL_at (by rw [cu_rl.1]; omega) (by decide +kernel)]
      rw [show Int32.ofNat w + 1 = Int32.ofNat (w + 1) from cp_ad (b := 1)]
      exact cp_shz (cp_shz (cp_shz (k _)))
    · rw [show (3 : Int32) = Int32.ofNat 3 from rfl, cp_lt (by omega) (by omega)]; exact hw
  refine st 0 S none K (by omega) h4 (fun o1 => ?_)
  refine st 1 _ o1 K (by omega) h4 (fun o2 => ?_)
  refine st 2 _ o2 K (by omega) h4 (fun o3 => ?_)
  refine cx_44_2 _ _ _ _ ⟨fun h => absurd h (by decide), fun _ => ?_⟩
  refine k _ ?_ rfl ?_
  · exact cf_tr (cf_tr (cf_wJ (decide_eq_true (by omega))) (cf_wJ (decide_eq_true (by omega)))) (cf_wJ (decide_eq_true (by omega)))
  · intro f g hf hg w b hw hb
    have h1 := hf w b hw hb
    have h2 := hg w b hw hb
    show _ = (f (64 * w + b) || g (64 * w + b))
    rw [← h1, ← h2, ← cu_b_or]
    refine congrArg (fun x => cu_b x b) ?_
    rcases w with _ | _ | _ | w
    · rw [cp_wJ2, if_neg (by omega), cp_wJ2, if_neg (by omega), cp_wJ2, if_pos ⟨rfl, rfl⟩]
    · rw [cp_wJ2, if_neg (by omega), cp_wJ2, if_pos ⟨rfl, rfl⟩, cp_wJ2, if_neg (by omega), cp_wJ2, if_neg (by omega)]
    · rw [cp_wJ2, if_pos ⟨rfl, rfl⟩, cp_wJ2, if_neg (by omega), cp_wJ2, if_neg (by omega), cp_wJ2, if_neg (by omega), cp_wJ2, if_neg (by omega)]
    · omega
/-- what two sets have in common is added -/
theorem cp_45 {S : cm_S} {K : cm_K} {r0 p q u : Nat} (h4 : S.1 33 4 = Int32.ofNat r0) (hp : p < 150) (hq : q < 150) (hu : u < 150) (hne : ¬ p = q) (hne2 : ¬ p = u)
    (k : ∀ S2, cf_W (cW_ds p (p + 1)) S S2 → S2.1 = S.1 → (∀ f g j, ck_sb S p f → ck_sb S q g → ck_sb S u j → ck_sb S2 p (fun v => f v || (g v && j v))) → K (.inl none) S2 0) :
    cm_At (am_XX L xs) (d + 2) 45 0 [some (.ref 33), some (.int (Int32.ofNat (r0 + p))), some (.int (Int32.ofNat (r0 + q))), some (.int (Int32.ofNat (r0 + u))), none, none, none, none] [] S K := by
  refine cx_45_0 _ _ _ ?_
  have st : ∀ (w : Nat) (S : cm_S) (o4 o7 : Option Value) (K : cm_K), w < 3 → S.1 33 4 = Int32.ofNat r0 → (∀ o4 o7, cm_At (am_XX L xs) (d + 2) 45 3 [some (.ref 33), some (.int (Int32.ofNat (r0 + p))), some (.int (Int32.ofNat (r0 + q))), some (.int (Int32.ofNat (r0 + u))), some (.int (Int32.ofNat (w + 1))), o4, none, o7] [] (cm_wJ S 34 (3 * p + w) (S.2 34 (3 * p + w) ||| (S.2 34 (3 * q + w) &&& S.2 34 (3 * u + w)))) K) → cm_At (am_XX L xs) (d + 2) 45 3 [some (.ref 33), some (.int (Int32.ofNat (r0 + p))), some (.int (Int32.ofNat (r0 + q))), some (.int (Int32.ofNat (r0 + u))), some (.int (Int32.ofNat w)), o4, none, o7] [] S K := by
    intro w S o4 o7 K hw h4 k
    refine cx_45_3 _ _ _ _ _ _ ⟨fun _ => ?_, fun h => absurd ?_ h⟩
    · rintro _ rfl
      rw [cu_pl h4]
      refine cp_168 (by decide) (cp_r2 ?_)
      rw [cp_g_at (by rw [cu_rl.1]; omega) (by decide +kernel)]
      rintro _ rfl
      rw [cu_pl h4]
      refine cp_168 (by decide) (cp_r2 ?_)
      rw [cp_g_at (by rw [cu_rl.1]; omega) (by decide +kernel)]
      rintro _ rfl
      rw [cu_pl h4]
      refine cp_168 (by decide) (cp_r2 ?_)
      rw [cp_g_at (by rw [cu_rl.1]; omega) (by decide +kernel)]
      refine cp_169 (by decide) (cp_r0 ?_)
      rw [cp_wL_at (by rw [cu_rl.1]; omega) (by decide +kernel)]
      rw [show Int32.ofNat w + 1 = Int32.ofNat (w + 1) from cp_ad (b := 1)]
      exact cp_shz (cp_shz (cp_shz (cp_shz (k _ _))))
    · rw [show (3 : Int32) = Int32.ofNat 3 from rfl, cp_lt (by omega) (by omega)]; exact hw
  refine st 0 S none none K (by omega) h4 (fun o1 p1 => ?_)
  refine st 1 _ o1 p1 K (by omega) h4 (fun o2 p2 => ?_)
  refine st 2 _ o2 p2 K (by omega) h4 (fun o3 p3 => ?_)
  refine cx_45_3 _ _ _ _ _ _ ⟨fun h => absurd h (by decide), fun _ => ?_⟩
  refine k _ ?_ rfl ?_
  · exact cf_tr (cf_tr (cf_wJ (decide_eq_true (by omega))) (cf_wJ (decide_eq_true (by omega)))) (cf_wJ (decide_eq_true (by omega)))
  · intro f g j hf hg hj w b hw hb
    have h1 := hf w b hw hb
    have h2 := hg w b hw hb
    have h3 := hj w b hw hb
    show _ = (f (64 * w + b) || (g (64 * w + b) && j (64 * w + b)))
    rw [← h1, ← h2, ← h3, ← cu_b_an, ← cu_b_or]
    refine congrArg (fun x => cu_b x b) ?_
    rcases w with _ | _ | _ | w
    · rw [cp_wJ2, if_neg (by omega), cp_wJ2, if_neg (by omega), cp_wJ2, if_pos ⟨rfl, rfl⟩]
    · rw [cp_wJ2, if_neg (by omega), cp_wJ2, if_pos ⟨rfl, rfl⟩, cp_wJ2, if_neg (by omega), cp_wJ2, if_neg (by omega), cp_wJ2, if_neg (by omega)]
    · rw [cp_wJ2, if_pos ⟨rfl, rfl⟩, cp_wJ2, if_neg (by omega), cp_wJ2, if_neg (by omega), cp_wJ2, if_neg (by omega), cp_wJ2, if_neg (by omega), cp_wJ2, if_neg (by omega), cp_wJ2, if_neg (by omega)]
    · omega
/-- a variable is added to an empty set -/
theorem cp_43 {S : cm_S} {K : cm_K} {r0 p v : Nat} (h4 : S.1 33 4 = Int32.ofNat r0) (hp : p < 150) (hv : v < 192)
    (k : ∀ S2, cf_W (cW_ds p (p + 1)) S S2 → S2.1 = S.1 → (ck_sb S p (fun _ => false) → ck_sb S2 p (fun u => decide (v = u))) → K (.inl none) S2 0) :
    cm_At (am_XX L xs) (d + 2) 43 0 [some (.ref 33), some (.int (Int32.ofNat (r0 + p))), some (.int (Int32.ofNat v)), none] [] S K := by
  obtain ⟨v1, v2⟩ := cu_dv hv
  refine cx_43_0 _ _ ?_
  rintro _ rfl
  refine ⟨by decide, ?_⟩
  rw [v1, cu_pl h4]
  refine cp_168 (by decide) (cp_r2 ?_)
  rw [cp_g_at (by rw [cu_rl.1]; omega) (by decide +kernel)]
  refine ⟨by decide, ?_⟩
  rw [show Int32.ofNat v - Int32.ofNat (v / 64) * 64 = Int32.ofNat (v % 64) by rw [← v1]; exact v2]
  refine cp_169 (by decide) (cp_r0 ?_)
  rw [cp_wL_at (by rw [cu_rl.1]; omega) (by decide +kernel)]
  refine k _ (cf_wJ (decide_eq_true (by omega))) rfl (fun h w b hw hb => ?_)
  have h1 := h w b hw hb
  rw [cp_wJ2]
  by_cases hwv : w = v / 64
  · subst hwv
    rw [if_pos ⟨rfl, rfl⟩, cu_b_or, h1, cu_b_sh (by omega) hb, Bool.false_or]
    exact decide_eq_decide.mpr (by omega)
  · rw [if_neg (by omega), h1]
    exact (decide_eq_false (by omega)).symm
/-- whether a variable is in a set -/
theorem cp_40 {S : cm_S} {K : cm_K} {p v : Nat} {f : Nat → Bool} (hp : p < 150) (hv : v < 192) (hf : ck_sb S p f)
    (k : K (.inl (some (.int (if f v = true then 1 else 0)))) S 0) :
    cm_At (am_XX L xs) (d + 2) 40 0 [some (.ref 33), some (.int (Int32.ofNat p)), some (.int (Int32.ofNat v))] [] S K := by
  obtain ⟨v1, v2⟩ := cu_dv hv
  have hb := hf (v / 64) (v % 64) (by omega) (by omega)
  rw [show 64 * (v / 64) + v % 64 = v by omega] at hb
  refine cx_40_0 _ _ ⟨by decide, ?_⟩
  rw [v1, show (3 : Int32) = Int32.ofNat 3 from rfl, cp_ml, cp_ad, Nat.mul_comm p 3]
  refine cp_168 (by decide) (cp_r2 ?_)
  rw [cp_g_at (by rw [cu_rl.1]; omega) (by decide +kernel)]
  refine ⟨by decide, ?_⟩
  rw [show Int32.ofNat v - Int32.ofNat (v / 64) * 64 = Int32.ofNat (v % 64) by rw [← v1]; exact v2]
  refine ⟨fun h => ⟨Or.inr rfl, ?_⟩, fun h => ⟨Or.inl rfl, ?_⟩⟩
  · rw [cu_b_ts (by omega), hb] at h
    rw [if_pos h] at k
    exact k
  · rw [cu_b_ts (by omega), hb] at h
    rw [if_neg h] at k
    exact k
end CP73
