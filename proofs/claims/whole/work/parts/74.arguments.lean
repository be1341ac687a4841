/-! ## 74 Demand: the arguments that are needed, and what is needed in one node -/
def cu_mk (a b c e : Bool) : Nat := (if a then 1 else 0) + (if b then 2 else 0) + (if c then 4 else 0) + (if e then 8 else 0)
def cu_mf (f : Nat → Bool) : Nat := cu_mk (f 0) (f 1) (f 2) (f 3)
theorem cu_mk_b {f : Nat → Bool} {k : Nat} (hk : k < 4) : ((Int32.ofNat (cu_mf f) >>> (Int32.ofNat k &&& 31)) &&& (1 : Int32)) = 1 ↔ f k = true := by
  have h2 : ∀ a b c e : Bool, (((Int32.ofNat (cu_mk a b c e) >>> (Int32.ofNat 0 &&& 31)) &&& (1 : Int32)) = 1 ↔ a = true) ∧ (((Int32.ofNat (cu_mk a b c e) >>> (Int32.ofNat 1 &&& 31)) &&& (1 : Int32)) = 1 ↔ b = true) ∧ (((Int32.ofNat (cu_mk a b c e) >>> (Int32.ofNat 2 &&& 31)) &&& (1 : Int32)) = 1 ↔ c = true) ∧ (((Int32.ofNat (cu_mk a b c e) >>> (Int32.ofNat 3 &&& 31)) &&& (1 : Int32)) = 1 ↔ e = true) := by decide +kernel
  obtain ⟨h3, h4, h5, h6⟩ := h2 (f 0) (f 1) (f 2) (f 3)
  rcases k with _ | _ | _ | _ | k
  · exact h3
  · exact h4
  · exact h5
  · exact h6
  · omega
/-- the row of what definitions need -/
def ck_q (S : cm_S) (a : Nat) (Q : Nat → Nat → Bool) : Prop := ∀ g, g < 8 → S.1 a g = Int32.ofNat (cu_mf (Q g))
def cu_ok (t : ct_T) : Prop := ∀ e, e ∈ ct_fl t → e.2.2.1 = -1 ∨ (0 ≤ e.2.2.1.toInt ∧ e.2.2.1.toInt < 192)
theorem cu_ok_nd {e : ct_D} {a b c : ct_T} (h : cu_ok (ct_nd e a b c)) : (e.2.2.1 = -1 ∨ (0 ≤ e.2.2.1.toInt ∧ e.2.2.1.toInt < 192)) ∧ cu_ok a ∧ cu_ok b ∧ cu_ok c := ct_fl_sub h
theorem ct_nus_nd {e : ct_D} {a b c : ct_T} (h : ct_nus (ct_nd e a b c)) : ct_nu e ∧ ct_nus a ∧ ct_nus b ∧ ct_nus c := ct_fl_sub h
def cu_M (U : Nat → ct_T) (g : Nat) : Nat := ct_pd 4 (U g)
theorem ct_pd_le : ∀ (n : Nat) (t : ct_T), ct_pd n t ≤ n
  | 0, _ => Nat.le_refl _
  | n + 1, .leaf => Nat.zero_le _
  | n + 1, .inner _ _ _ _ .leaf => Nat.zero_le _
  | n + 1, .inner _ e _ a (.inner _ _ _ _ _) => by
    show (if e.1 = 4 then 1 + ct_pd n a else 0) ≤ n + 1
    have := ct_pd_le n a
    split <;> omega
theorem cu_M_le {U : Nat → ct_T} {g : Nat} : cu_M U g ≤ 4 := ct_pd_le 4 (U g)
theorem cu_ar_sz : ∀ t, ct_wf t → cu_ar t ≤ ct_sz t :=
  ct_ind (Nat.le_refl _) (fun e a b c hw iha ihb ihc => by
    show (if e.1 = 5 then cu_ar a + 1 else 0) ≤ _
    rw [ct_sz_nd]
    split <;> omega)
theorem cu_l64 {x : Int64} {m : Nat} (hm : m ≤ 100) (h : 0 ≤ x.toInt ∧ x.toInt < (m : Int)) : ∃ k, k < m ∧ x = Int64.ofNat k := by
  refine ⟨x.toInt.toNat, by omega, ?_⟩
  rw [← Int64.toInt_inj, Int64.toInt_ofNat_of_lt (show x.toInt.toNat < 2 ^ 63 by omega)]
  omega
theorem cu_i32 {x : Int64} (h : 0 ≤ x.toInt ∧ x.toInt < 8) : x.toInt32 = Int32.ofNat x.toInt32.toNatClampNeg ∧ x.toInt32.toNatClampNeg < 8 := by
  obtain ⟨k, hk, rfl⟩ := cu_l64 (m := 8) (by omega) h
  have h2 : ∀ k : Fin 8, (Int64.ofNat k.val).toInt32 = Int32.ofNat (Int64.ofNat k.val).toInt32.toNatClampNeg ∧ (Int64.ofNat k.val).toInt32.toNatClampNeg < 8 := by decide +kernel
  exact h2 ⟨k, hk⟩
theorem cu_n2_z {Q : Nat → Nat → Bool} {M : Nat → Nat} {e : ct_D} {a b c : ct_T} {v : Nat} (h5 : ¬ e.1 = 5) : (cu_n2 Q M (ct_nd e a b c) v).2 = false := by
  rw [cu_n2_nd]
  split
  · rfl
  · repeat (first | rfl | split)
theorem ct_nd_inj {e e2 : ct_D} {a b c x y z : ct_T} (h : ct_nd e a b c = ct_nd e2 x y z) : e = e2 ∧ a = x ∧ b = y ∧ c = z := by
  unfold ct_nd at h
  injection h with h1 h2 h3 h4 h5
  injection h5 with g1 g2 g3 g4 g5
  exact ⟨h2, h4, g4, g5⟩
theorem ck_sa_sb {Q : Nat → Nat → Bool} {M : Nat → Nat} {S : cm_S} {t : ct_T} {p : Nat} (hw : ct_wf t) (hn : ¬ t = .leaf) : ck_sa Q M S t p → ck_sb S p (fun v => (cu_n2 Q M t v).1) :=
  ct_ind (P := fun t => ¬ t = .leaf → ck_sa Q M S t p → ck_sb S p (fun v => (cu_n2 Q M t v).1)) (fun h => absurd rfl h) (fun e a b c hw _ _ _ _ h => h.1) t hw hn
section CP74
variable {L : Nat} {xs : Nat → Int32} {d : Nat} {U : Nat → ct_T}
/-- how many parameters a definition has -/
theorem cp_32U {S : cm_S} {K : cm_K} {g : Nat} (hd : ck_d S 27 U) (hw : ∀ i, i < 8 → ct_wf (U i)) (hg : g < 8) (k : K (.inl (some (.int (Int32.ofNat (cu_M U g))))) S 0) : cm_At (am_XX L xs) (d + 2) 32 0 [some (.ref 27), some (.int (Int32.ofNat (150 * g))), none] [] S K := by
  by_cases hl : U g = .leaf
  · have h1 := (hd g hg).1 hl
    refine cp_32z (by decide) ?_ ?_
    · rw [cp_g_at (by rw [cu_rl.2.2.2]; omega) (by decide +kernel)]; exact h1.2
    · rw [show cu_M U g = 0 by unfold cu_M; rw [hl]; rfl] at k
      exact k
  · exact cp_32 (by decide) (hw g hg) hl ((hd g hg).2 hl) k
/-- the walk to what is applied -/
theorem cp_42w {S : cm_S} {q1 : Int32} {K : cm_K} (hd : ck_d S 27 U) (hU : ∀ i, i < 8 → ct_wf (U i)) : ∀ u, ct_wf u → ∀ (r n : Nat), ck_t S 27 r u → ct_nus u → ¬ u = .leaf → n + cu_ar u < 150 →
    (cu_gl u = none → K (.inl none) S 0) → (∀ g, g < 8 → cu_gl u = some g → n + cu_ar u < cu_M U g → K (.inl none) S 0) →
    (∀ g q2, g < 8 → cu_gl u = some g → cu_M U g ≤ n + cu_ar u → cm_At (am_XX L xs) (d + 3) 42 94 [some (.ref 33), some (.int q1), some (.int q2), some (.int (Int32.ofNat (n + cu_ar u))), some (.int (Int32.ofNat g)), some (.int q1), some (.int (Int32.ofNat (n + cu_ar u) - 1))] [] S K) →
    cm_At (am_XX L xs) (d + 3) 42 11 [some (.ref 33), some (.int q1), some (.int (Int32.ofNat r)), some (.int (Int32.ofNat n)), none, none, none] [] S K :=
  ct_ind (fun r n _ _ hn => absurd rfl hn) (fun e a b c hw iha ihb ihc r n ht hnu hn hle k1 k2 k3 => by
    have hg : cu_gl (ct_nd e a b c) = if e.1 = 5 then cu_gl a else if e.1 = 3 then some e.2.1.toInt32.toNatClampNeg else none := rfl
    have ha : cu_ar (ct_nd e a b c) = if e.1 = 5 then cu_ar a + 1 else 0 := rfl
    have hgr := cp_rw (S := S) (a := 27) (by decide) ht
    have h1 : cp_g (cm_cap 27) (S.1 28) 0 (Int32.ofNat r) = e.1 := congrArg Prod.fst hgr
    have h2 : cp_g (cm_cap 27) (S.2 31) 0 (Int32.ofNat r) = e.2.1 := congrArg (fun x => x.2.1) hgr
    have ht2 := ht
    rw [ck_t_nd] at ht2
    refine cx_42_11 _ _ _ ⟨fun _ => ?_, fun h => absurd ?_ h⟩
    · refine cp_8 (by decide) (cp_r1 ?_)
      rw [h1]
      refine ⟨fun h5 => ?_, fun h5 => ?_⟩
      · refine cp_14 (by decide) (cp_r1 ?_)
        rw [show Int32.ofNat r + 1 = Int32.ofNat (r + 1) from cp_ad (b := 1), show Int32.ofNat n + 1 = Int32.ofNat (n + 1) from cp_ad (b := 1)]
        rw [hg, if_pos h5] at k1 k2 k3
        rw [ha, if_pos h5] at k2 k3 hle
        rw [show n + (cu_ar a + 1) = n + 1 + cu_ar a by omega] at k2 k3 hle
        exact cp_shz (cp_shz (iha (r + 1) (n + 1) ht2.2.2.2.1 (ct_nus_nd hnu).2.1 (ct_q2 hw (Or.inl h5)).1 hle k1 k2 k3))
      · rw [hg, if_neg h5] at k1 k2 k3
        rw [ha, if_neg h5] at k2 k3 hle
        refine cp_8 (by decide) (cp_r1 ?_)
        rw [h1]
        refine ⟨fun h3 => ?_, fun h3 => ?_⟩
        · rw [if_pos h3] at k2 k3
          refine cp_11 (by decide) (cp_r2 ?_)
          rw [h2]
          have hnum := (ct_nus_nd hnu).1.1 h3
          have hc : e.2.1.toInt32 = Int32.ofNat e.2.1.toInt32.toNatClampNeg ∧ e.2.1.toInt32.toNatClampNeg < 8 := cu_i32 hnum
          generalize e.2.1.toInt32.toNatClampNeg = g at hc k2 k3
          rw [hc.1]
          refine cp_165 (cp_r1 ?_)
          rw [cp_rt]
          refine cp_32U hd hU hc.2 (cp_r1 ?_)
          have hM := cu_M_le (U := U) (g := g)
          refine ⟨fun hlt => ?_, fun hlt => ?_⟩
          · rw [cp_lt (by omega) (by omega)] at hlt
            exact k2 g hc.2 rfl hlt
          · rw [cp_lt (by omega) (by omega)] at hlt
            exact cp_shz (cp_shz (cp_shz (cp_shz (cp_shz (k3 g _ hc.2 rfl (by omega))))))
        · rw [if_neg h3] at k1
          exact k1 rfl
    · rw [show (150 : Int32) = Int32.ofNat 150 from rfl, cp_lt (by omega) (by omega)]; omega)
/-- the arguments that are needed are added, from the last one on -/
theorem cp_42l {q2 q3 : Int32} {r0 p g : Nat} {Q : Nat → Nat → Bool} {M : Nat → Nat} (hQ : ∀ g k, Q g k = true → k < 4) (hg : g < 8) (hp : p < 150) : ∀ u, ct_wf u → ∀ (S : cm_S) (q : Nat) (f : Nat → Bool) (K : cm_K), cu_gl u = some g → S.1 33 4 = Int32.ofNat r0 → ck_q S 35 Q → ck_t S 27 (r0 + q) u → q + ct_sz u ≤ 150 → p ≤ q → ck_sb S p f → (∀ e a b c, u = ct_nd e a b c → ck_sa Q M S a (q + 1) ∧ ck_sa Q M S b (q + 1 + ct_sz a)) →
    (∀ S2, cf_W (cW_ds p (p + 1)) S S2 → S2.1 = S.1 → ck_sb S2 p (fun v => f v || (cu_n2 Q M u v).2) → K (.inl none) S2 0) →
    cm_At (am_XX L xs) (d + 3) 42 94 [some (.ref 33), some (.int (Int32.ofNat (r0 + p))), some (.int q2), some (.int q3), some (.int (Int32.ofNat g)), some (.int (Int32.ofNat (r0 + q))), some (.int (Int32.ofNat (cu_ar u) - 1))] [] S K :=
  ct_ind (fun S q f K hgl => by cases hgl) (fun e a b c hw iha ihb ihc S q f K hgl h4 hq ht hsz hpq hsb hsa k => by
    have hga : cu_gl (ct_nd e a b c) = if e.1 = 5 then cu_gl a else if e.1 = 3 then some e.2.1.toInt32.toNatClampNeg else none := rfl
    have har : cu_ar (ct_nd e a b c) = if e.1 = 5 then cu_ar a + 1 else 0 := rfl
    rw [hga] at hgl
    rw [har]
    by_cases h5 : e.1 = 5
    · rw [if_pos h5] at hgl ⊢
      obtain ⟨pa, pb, pc⟩ := ct_q2 hw (Or.inl h5)
      have ht2 := ht
      rw [ck_t_nd] at ht2
      obtain ⟨t0, t1, t2, t3, t4, t5⟩ := ht2
      rw [ct_sz_nd] at hsz
      have har2 := cu_ar_sz a (ct_wf_nd hw).2.2.2.2.1
      have sb0 := ct_sz_ne (ct_wf_nd hw).2.2.2.2.2.1 pb
      rw [cp_s1]
      have n2 : ∀ v, (cu_n2 Q M (ct_nd e a b c) v).2 = ((cu_n2 Q M a v).2 || (Q g (cu_ar a) && (cu_n2 Q M b v).1)) := fun v => by
        rw [cu_n2_nd, if_neg (by rw [h5]; decide), if_pos h5, hgl]; rfl
      obtain ⟨sa1, sa2⟩ := hsa e a b c rfl
      have go : ∀ (S2 : cm_S) (f2 : Nat → Bool) (K2 : cm_K), cf_W (cW_ds p (p + 1)) S S2 → S2.1 = S.1 → ck_sb S2 p f2 → (∀ S3, cf_W (cW_ds p (p + 1)) S S3 → S3.1 = S.1 → ck_sb S3 p (fun v => f2 v || (cu_n2 Q M a v).2) → K2 (.inl none) S3 0) → cm_At (am_XX L xs) (d + 3) 42 94 [some (.ref 33), some (.int (Int32.ofNat (r0 + p))), some (.int q2), some (.int q3), some (.int (Int32.ofNat g)), some (.int (Int32.ofNat (r0 + q) + 1)), some (.int (Int32.ofNat (cu_ar a) + (-1)))] [] S2 K2 := by
        intro S2 f2 K2 c2 e2 hs2 k2
        rw [show Int32.ofNat (r0 + q) + 1 = Int32.ofNat (r0 + (q + 1)) from cp_ad (b := 1), cp_pm1]
        have sa1' : ck_sa Q M S2 a (q + 1) := ck_sa_cf c2 a (ct_wf_nd hw).2.2.2.2.1 _ (fun j h1 h2 => decide_eq_false (by omega)) sa1
        refine iha S2 (q + 1) f2 K2 hgl (by rw [e2]; exact h4) (fun g2 hg2 => by rw [e2]; exact hq g2 hg2) (ck_t_cf c2 (fun b j q1 q2 _ _ => decide_eq_false (by omega)) t3) (by omega) (by omega) hs2 (fun e' a' b' c' h => by subst h; exact ⟨sa1'.2.1, sa1'.2.2.1⟩) (fun S3 c3 e3 h3 => k2 S3 (cf_tr c2 c3) (e3.trans e2) h3)
      have f2g : ∀ {S3 : cm_S} {f2 : Nat → Bool}, (∀ v, (f2 v || (cu_n2 Q M a v).2) = (f v || (cu_n2 Q M (ct_nd e a b c) v).2)) → ck_sb S3 p (fun v => f2 v || (cu_n2 Q M a v).2) → ck_sb S3 p (fun v => f v || (cu_n2 Q M (ct_nd e a b c) v).2) := fun hE h => by rw [← funext hE]; exact h
      refine cx_42_94 _ _ _ _ _ _ ⟨fun h => absurd h (cp_nn (by omega)), fun _ => ⟨fun hlt => ?_, fun hlt => ?_⟩⟩
      · rw [show (4 : Int32) = Int32.ofNat 4 from rfl, cp_lt (by omega) (by omega)] at hlt
        refine cp_166 (by decide) (cp_r1 ?_)
        rw [cp_g_at (by rw [cu_rl.2.1]; exact hg) (by decide +kernel), hq g hg]
        refine ⟨fun hbit => ?_, fun hbit => ?_⟩
        · rw [cu_mk_b hlt] at hbit
          refine cp_15 (by decide) (cp_r1 ?_)
          rw [cp_2nd (by decide) ht hw pa, show r0 + q + 1 + ct_sz a = r0 + (q + 1 + ct_sz a) by omega]
          refine cp_44 h4 hp (by omega) (by omega) (fun S2 c2 e2 s2 => cp_r0 ?_)
          refine cp_14 (by decide) (cp_r1 ?_)
          have sbb : ck_sb S (q + 1 + ct_sz a) (fun v => (cu_n2 Q M b v).1) := ck_sa_sb (ct_wf_nd hw).2.2.2.2.2.1 pb sa2
          refine cp_shz (cp_shz (cp_shz (cp_shz (go S2 _ K c2 e2 (s2 _ _ hsb sbb) (fun S3 c3 e3 h3 => k S3 c3 e3 (f2g (fun v => ?_) h3))))))
          rw [n2, hbit, Bool.true_and, Bool.or_assoc, Bool.or_comm (cu_n2 Q M b v).1]
        · rw [cu_mk_b hlt] at hbit
          refine cp_14 (by decide) (cp_r1 ?_)
          refine cp_shz (cp_shz (go S f K cf_rfl rfl hsb (fun S3 c3 e3 h3 => k S3 c3 e3 (f2g (fun v => ?_) h3))))
          rw [n2, show Q g (cu_ar a) = false by simpa using hbit, Bool.false_and, Bool.or_false]
      · rw [show (4 : Int32) = Int32.ofNat 4 from rfl, cp_lt (by omega) (by omega)] at hlt
        refine cp_14 (by decide) (cp_r1 ?_)
        refine cp_shz (go S f K cf_rfl rfl hsb (fun S3 c3 e3 h3 => k S3 c3 e3 (f2g (fun v => ?_) h3)))
        have hqf : Q g (cu_ar a) = false := by
          cases hq2 : Q g (cu_ar a) with
          | false => rfl
          | true => exact absurd (hQ _ _ hq2) hlt
        rw [n2, hqf, Bool.false_and, Bool.or_false]
    · rw [if_neg h5] at hgl ⊢
      refine cx_42_94 _ _ _ _ _ _ ⟨fun _ => k S cf_rfl rfl ?_, fun h => absurd (by decide) h⟩
      have hE : ∀ v, (f v || (cu_n2 Q M (ct_nd e a b c) v).2) = f v := fun v => by rw [cu_n2_z h5, Bool.or_false]
      rw [funext hE]
      exact hsb)
/-- the arguments of an application that are needed are added -/
theorem cp_42 {S : cm_S} {K : cm_K} {r0 p : Nat} {Q : Nat → Nat → Bool} {e : ct_D} {a b c : ct_T} {f : Nat → Bool} (hd : ck_d S 27 U) (hU : ∀ i, i < 8 → ct_wf (U i)) (hQ : ∀ g k, Q g k = true → k < 4) (hw : ct_wf (ct_nd e a b c)) (h5 : e.1 = 5) (h4 : S.1 33 4 = Int32.ofNat r0) (hq : ck_q S 35 Q) (ht : ck_t S 27 (r0 + p) (ct_nd e a b c)) (hnu : ct_nus (ct_nd e a b c)) (hsz : p + ct_sz (ct_nd e a b c) ≤ 150) (hsb : ck_sb S p f) (sa1 : ck_sa Q (cu_M U) S a (p + 1)) (sa2 : ck_sa Q (cu_M U) S b (p + 1 + ct_sz a))
    (k : ∀ S2, cf_W (cW_ds p (p + 1)) S S2 → S2.1 = S.1 → ck_sb S2 p (fun v => f v || (cu_gM (cu_M U) (cu_ar a + 1) (cu_gl a) && (cu_n2 Q (cu_M U) (ct_nd e a b c) v).2)) → K (.inl none) S2 0) :
    cm_At (am_XX L xs) (d + 3) 42 0 [some (.ref 33), some (.int (Int32.ofNat (r0 + p))), none, none, none, none, none] [] S K := by
  obtain ⟨pa, pb, pc⟩ := ct_q2 hw (Or.inl h5)
  have ht2 := ht
  rw [ck_t_nd] at ht2
  have har2 := cu_ar_sz a (ct_wf_nd hw).2.2.2.2.1
  have hsz2 := hsz
  rw [ct_sz_nd] at hsz2
  have sb0 := ct_sz_ne (ct_wf_nd hw).2.2.2.2.2.1 pb
  have hga : cu_gl (ct_nd e a b c) = cu_gl a := by
    show (if e.1 = 5 then cu_gl a else if e.1 = 3 then some e.2.1.toInt32.toNatClampNeg else none) = _
    rw [if_pos h5]
  have har : cu_ar (ct_nd e a b c) = cu_ar a + 1 := by
    show (if e.1 = 5 then cu_ar a + 1 else 0) = _
    rw [if_pos h5]
  have fin : ∀ {S2 : cm_S}, (∀ v, (cu_gM (cu_M U) (cu_ar a + 1) (cu_gl a) && (cu_n2 Q (cu_M U) (ct_nd e a b c) v).2) = false) → ck_sb S2 p f → ck_sb S2 p (fun v => f v || (cu_gM (cu_M U) (cu_ar a + 1) (cu_gl a) && (cu_n2 Q (cu_M U) (ct_nd e a b c) v).2)) := fun hE h => by
    rw [funext (fun v => (congrArg (fun x => f v || x) (hE v)).trans (Bool.or_false _) : ∀ v, (f v || (cu_gM (cu_M U) (cu_ar a + 1) (cu_gl a) && (cu_n2 Q (cu_M U) (ct_nd e a b c) v).2)) = f v)]
    exact h
  refine cx_42_0 _ ?_
  refine cp_14 (by decide) (cp_r1 ?_)
  rw [show Int32.ofNat (r0 + p) + 1 = Int32.ofNat (r0 + p + 1) from cp_ad (b := 1)]
  refine cp_shz (cp_42w hd hU a (ct_wf_nd hw).2.2.2.2.1 (r0 + p + 1) 1 ht2.2.2.2.1 (ct_nus_nd hnu).2.1 pa (by omega) (fun hn => ?_) (fun g hg hgl hlt => ?_) (fun g q2 hg hgl hle => ?_))
  · exact k S cf_rfl rfl (fin (fun v => by rw [hn]; rfl) hsb)
  · refine k S cf_rfl rfl (fin (fun v => ?_) hsb)
    rw [hgl]
    show (decide (cu_M U g ≤ cu_ar a + 1) && _) = false
    rw [decide_eq_false (by omega), Bool.false_and]
  · have h := cp_42l (L := L) (xs := xs) (d := d) (q2 := q2) (q3 := Int32.ofNat (1 + cu_ar a)) (r0 := r0) (p := p) (g := g) (M := cu_M U) hQ hg (by omega) (ct_nd e a b c) hw S p f K (by rw [hga]; exact hgl) h4 hq ht hsz (Nat.le_refl _) hsb (fun e' a' b' c' h => by obtain ⟨rfl, rfl, rfl, rfl⟩ := ct_nd_inj h; exact ⟨sa1, sa2⟩) (fun S2 c2 e2 s2 => k S2 c2 e2 ?_)
    · rw [har, show cu_ar a + 1 = 1 + cu_ar a by omega] at h
      exact h
    · rw [hgl]
      show ck_sb S2 p (fun v => f v || (decide (cu_M U g ≤ cu_ar a + 1) && _))
      rw [decide_eq_true (by omega)]
      exact s2
end CP74
