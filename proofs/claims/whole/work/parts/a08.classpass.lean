/-! ## a08 Passes of the class: all cores -/
theorem dt_nb_ok : ∀ t, ct_wf t → ∀ G : ct_G, dt_w t → ct_lx G t → (∀ x, G x → 0 ≤ x.toInt ∧ x.toInt < 32768) → (∀ z, 0 < dt_ct z t → 0 ≤ z.toInt ∧ z.toInt < 32768) → ct_nb t :=
  ct_ind (fun G _ _ _ _ e he => by cases he) (fun e a b c hwf iha ihb ihc G hw hl hG hz => by
    obtain ⟨p1, p2, pa, pb, pc⟩ := dt_w_nd hw
    obtain ⟨lxa, lxb, lxc⟩ := dt_lx_nd hwf hl
    have hoc : ∀ z, 0 < dt_oc z e → 0 ≤ z.toInt ∧ z.toInt < 32768 := fun z h => hz z (by rw [dt_ct_nd]; omega)
    have hin : ∀ z, z ∈ ct_ob e → 0 ≤ z.toInt ∧ z.toInt < 32768 := fun z h => hoc z (List.count_pos_iff.mpr h)
    have ha := iha _ pa lxa (fun x hx => ((dt_Go p1).1 hx).elim (hG x) (hoc x)) (fun z h => hz z (by rw [dt_ct_nd]; omega))
    have hb := ihb _ pb lxb (fun x hx => ((dt_Go p1).2.1 hx).elim (hG x) (hoc x)) (fun z h => hz z (by rw [dt_ct_nd]; omega))
    have hc := ihc _ pc lxc (fun x hx => ((dt_Go p1).2.2 hx).elim (hG x) (hoc x)) (fun z h => hz z (by rw [dt_ct_nd]; omega))
    intro e2 he2
    rw [ct_fl_nd] at he2
    rcases List.mem_cons.mp he2 with rfl | he2
    · obtain ⟨n1, n2, n3⟩ := p1
      by_cases h12 : e2.1 = 12
      · have hob : ct_ob e2 = [e2.2.2.1, e2.2.2.2] := if_pos h12
        exact ⟨Or.inr (hin _ (by rw [hob]; simp)), Or.inr (hin _ (by rw [hob]; simp))⟩
      · by_cases h2 : e2.1 = 2
        · rw [ct_lx_nd, if_pos h2] at hl
          exact ⟨Or.inr (hG _ hl), Or.inl (n1 (Or.inl h2)).2⟩
        · by_cases h4 : e2.1 = 4 ∨ e2.1 = 6 ∨ e2.1 = 7 ∨ e2.1 = 8
          · have hob : ct_ob e2 = [e2.2.2.1] := by
              unfold ct_ob
              rw [if_neg h12, if_pos h4]
            exact ⟨Or.inr (hin _ (by rw [hob]; simp)), Or.inl (n1 (Or.inr h4)).2⟩
          · have hno : ¬ (e2.1 = 2 ∨ e2.1 = 4 ∨ e2.1 = 6 ∨ e2.1 = 7 ∨ e2.1 = 8 ∨ e2.1 = 12) := fun hc => by
              rcases hc with h | h | h | h | h | h
              · exact h2 h
              · exact h4 (Or.inl h)
              · exact h4 (Or.inr (Or.inl h))
              · exact h4 (Or.inr (Or.inr (Or.inl h)))
              · exact h4 (Or.inr (Or.inr (Or.inr h)))
              · exact h12 h
            exact ⟨Or.inl (n3 hno).1, Or.inl (n3 hno).2⟩
    · rcases List.mem_append.mp he2 with h | h
      · exact ha e2 h
      · rcases List.mem_append.mp h with h | h
        · exact hb e2 h
        · exact hc e2 h)
theorem dt_150 {t : ct_T} (hco : ct_co t) (hcan : ct_can t = t) : ∀ x, x ∈ dt_B t → x.toInt < 150 := by
  have hok := cu_ok_can hco hcan
  have h5 : ∀ (l : List ct_D) (x : Int32), (∀ e, e ∈ l → (e.2.2.1 = -1 ∨ (0 ≤ e.2.2.1.toInt ∧ e.2.2.1.toInt < 150)) ∧ (e.2.2.2 = -1 ∨ (0 ≤ e.2.2.2.toInt ∧ e.2.2.2.toInt < 150))) → x ∈ ct_bl l → x.toInt < 150 := by
    intro l x
    induction l with
    | nil => intro _ h; cases h
    | cons e l ih =>
      intro h1 h2
      rcases List.mem_append.mp h2 with h2 | h2
      · have h3 := h1 e List.mem_cons_self
        have hv : ∀ z : Int32, (z = -1 ∨ (0 ≤ z.toInt ∧ z.toInt < 150)) → z.toInt < 150 := fun z hz => by
          rcases hz with rfl | hz
          · decide
          · exact hz.2
        unfold ct_ob at h2
        split at h2
        · rcases List.mem_cons.mp h2 with rfl | h2
          · exact hv _ h3.1
          · rw [List.mem_singleton.mp h2]; exact hv _ h3.2
        · split at h2
          · rw [List.mem_singleton.mp h2]; exact hv _ h3.1
          · cases h2
      · exact ih (fun e he => h1 e (List.mem_cons_of_mem _ he)) h2
  exact fun x hx => h5 _ x hok hx
section DTa08
variable {U : Nat → ct_T} {R : List (Int32 × Int32 × Int32 × Int32)}
theorem dt_DU (hU : ct_ds U) : dt_C (dt_U U) ∧ ∀ g x, x ∈ dt_B (dt_U U g) → x.toInt < 150 := by
  refine ⟨fun g hg => ?_, fun g x hx => ?_⟩
  · unfold dt_U at hg ⊢
    split at hg
    · next h => rw [if_pos h]; exact (hU g h hg).1
    · exact absurd rfl hg
  · unfold dt_U at hx
    split at hx
    · next h =>
      by_cases hl : U g = .leaf
      · rw [hl] at hx; cases hx
      · exact dt_150 (hU g h hl).1 (hU g h hl).2 x hx
    · cases hx
theorem dt_gU (hU : ct_ds U) (hR : ∀ q, q ∈ R → ct_rok q) {nq : ct_T → Nat → Bool} {ps : Nat} : dt_good (dt_dn (dt_U U) R nq ps) 150 := fun n m G e a b c t2 hn hn2 hw hbd hgc hl hsa hsb h =>
  dt_dn_ok (dt_DU hU).1 (fun g x hx => by have := (dt_DU hU).2 g x hx; omega) hR hn2 hw hbd hgc hl hsa hsb h
theorem dt_U0 (hU : ct_ds U) {i : Nat} (hi : i < 8) : dt_w (U i) ∧ dt_bd 150 (U i) ∧ ct_lx (fun _ => False) (U i) ∧ ct_sz (U i) ≤ 150 := by
  by_cases hl : U i = .leaf
  · rw [hl]
    exact ⟨dt_w_lf, ⟨fun z => by rw [dt_ct_lf]; omega, fun z hz => by rw [dt_ct_lf] at hz; omega⟩, trivial, by show (0 : Nat) ≤ 150; omega⟩
  · obtain ⟨hco, hcan⟩ := hU i hi hl
    obtain ⟨h1, h2, h3⟩ := dt_co_of hco (n := 150) (fun x hx => dt_150 hco hcan x hx)
    exact ⟨h1, h2, h3, hco.2.2.2.2.2.2.2⟩
def dt_p1 (U : Nat → ct_T) (R : List (Int32 × Int32 × Int32 × Int32)) (ps i : Nat) : Option (ct_T × Nat × Nat) := dt_pa (dt_dn (dt_U U) R (cu_nq (cu_lim U) (cu_M U)) ps) true (U i) 150
theorem dt_gc_F {n : Nat} {t : ct_T} : dt_gc n (fun _ => False) t := fun _ h => h.elim
theorem dt_co_res {n m : Nat} {t t2 : ct_T} (h : dt_res n m (fun _ => False) t t2) (hbd : dt_bd n t) (hl : ¬ t = .leaf) (hm : m ≤ 32768) : ct_co t2 := by
  have hb := dt_res_bd h hbd
  obtain ⟨h1, h2, h3, h4, h5, h6, h7⟩ := h
  refine ⟨h3.1, fun hc => hl (h4.mp hc), h3.2.1, dt_nb_ok t2 h3.1 _ h3 h6 (fun x hx => hx.elim) (fun z hz => ?_), dt_nodup.mpr hb.1, h6, h3.2.2, h7⟩
  have := hb.2 z hz
  omega
theorem dt_p1_ok (hU : ct_ds U) (hR : ∀ q, q ∈ R → ct_rok q) {ps i : Nat} (hi : i < 8) {u2 : ct_T} {m k : Nat} (h : dt_p1 U R ps i = some (u2, m, k)) : (u2 = .leaf ↔ U i = .leaf) ∧ m ≤ 22650 ∧ dt_w u2 ∧ ct_sz u2 ≤ 150 ∧ (¬ U i = .leaf → ct_co u2) := by
  obtain ⟨h1, h2, h3, h4⟩ := dt_U0 hU hi
  have hres := dt_pa_ok (dt_gU hU hR) (U i) h1.1 150 _ u2 m k h1 h2 dt_gc_F h3 (Nat.le_refl _) (by omega) h
  have hm := hres.2.1
  exact ⟨hres.2.2.2.1, by omega, hres.2.2.1, hres.2.2.2.2.2.2, fun hl => dt_co_res hres h2 hl (by omega)⟩
def dt_V (f : Nat → Option (ct_T × Nat × Nat)) (i : Nat) : ct_T := match f i with
  | some r => r.1
  | none => .leaf
def dt_kc (f : Nat → Option (ct_T × Nat × Nat)) (i : Nat) : Nat := match f i with
  | some r => r.2.2
  | none => 0
def dt_ks (f : Nat → Option (ct_T × Nat × Nat)) : Nat → Nat
  | 0 => 0
  | n + 1 => dt_ks f n + dt_kc f n
def dt_nu (f : Nat → Option (ct_T × Nat × Nat)) (i : Nat) : ct_T := ct_can (dt_V f i)
theorem ct_can_0 : ct_can .leaf = .leaf := rfl
theorem dt_nu_ds (hU : ct_ds U) (hR : ∀ q, q ∈ R → ct_rok q) {ps : Nat} : ct_ds (dt_nu (dt_p1 U R ps)) ∧ (∀ i, i < 8 → (∃ r, dt_p1 U R ps i = some r) → (dt_nu (dt_p1 U R ps) i = .leaf ↔ U i = .leaf)) := by
  refine ⟨fun i hi hl => ?_, fun i hi hr => ?_⟩
  · unfold dt_nu dt_V at hl ⊢
    cases h : dt_p1 U R ps i with
    | none => rw [h] at hl; exact absurd ct_can_0 hl
    | some r =>
      obtain ⟨u2, m, k⟩ := r
      rw [h] at hl
      dsimp only at hl ⊢
      obtain ⟨h1, h2, h3, h4, h5⟩ := dt_p1_ok hU hR hi h
      have hco := ct_can_co (h5 (fun hc => hl (by rw [h1.mpr hc]; rfl)))
      exact ⟨hco.1, hco.2.1⟩
  · obtain ⟨⟨u2, m, k⟩, h⟩ := hr
    unfold dt_nu dt_V
    rw [h]
    dsimp only
    obtain ⟨h1, h2, h3, h4, h5⟩ := dt_p1_ok hU hR hi h
    rw [ct_can_lf h3.1, h1]
end DTa08
def cW_g1 (i b j : Nat) : Bool := decide (45 ≤ b ∧ b ≤ 49 ∨ 51 ≤ b ∧ b ≤ 55 ∨ b = 50 ∧ (j = 5 ∨ j = 6) ∨ b = 37 ∧ (j = 7 ∨ j = 8) ∨ b = 34 ∨ b = 33 ∧ j = 4 ∨ 39 ≤ b ∧ b ≤ 43 ∧ 150 * i ≤ j ∧ j < 150 * i + 150)
def cW_gp (b j : Nat) : Bool := decide (45 ≤ b ∧ b ≤ 49 ∨ 51 ≤ b ∧ b ≤ 55 ∨ b = 50 ∧ (j = 5 ∨ j = 6) ∨ b = 37 ∧ (j = 7 ∨ j = 8) ∨ 34 ≤ b ∧ b ≤ 36 ∨ b = 33 ∧ j = 4 ∨ 39 ≤ b ∧ b ≤ 43)
section CPa08
variable {L : Nat} {xs : Nat → Int32} {d : Nat} {U : Nat → ct_T} {R : List (Int32 × Int32 × Int32 × Int32)}
/-- nothing is needed in no core -/
theorem cp_39e {S : cm_S} {K : cm_K} {i : Nat} (hi : i < 8) (hn : U i = .leaf) (hd : ck_d S 27 U)
    (k : ∀ S2, cf_W cW_dm S S2 → K (.inl none) S2 0) :
    cm_At (am_XX L xs) (d + 5) 39 0 [some (.ref 33), some (.int (Int32.ofNat i)), none, none] [] S K := by
  refine cx_39_0 _ ?_
  refine cp_165 (cp_r1 ?_)
  rw [cp_rt]
  rintro _ rfl
  rintro _ rfl
  have c5 : cf_W cW_dm S (cm_wI S 33 4 (Int32.ofNat (150 * i))) := cf_wI (decide_eq_true (by omega))
  have h4 : (cm_wI S 33 4 (Int32.ofNat (150 * i))).1 33 4 = Int32.ofNat (150 * i) := by rw [cp_wI1, if_pos ⟨rfl, rfl⟩]
  have d5 := ck_d_fr (a := 27) c5 (fun b j q1 q2 => decide_eq_false (by omega)) hd
  rw [h4]
  refine cp_13 (by decide) (cp_r1 ?_)
  rw [cp_g_at (by rw [dk_cap.2.2.1]; omega) (by decide +kernel), ((d5 i hi).1 hn).1, Int32.add_zero]
  refine cx_39_22 _ _ _ ?_
  rintro _ rfl
  rw [h4]
  exact ⟨fun _ => k _ c5, fun h => absurd (cp_m1lt (by omega)) h⟩
/-- one core -/
theorem cp_82 {S : cm_S} {K : cm_K} {ps i k0 : Nat} (hU : ct_ds U) (hR : ∀ q, q ∈ R → ct_rok q) (hps8 : ps < 8) (hi : i < 8) (hq : ps = 4 → ck_q S 35 (cu_lim U)) (hdU : ck_d S 27 U) (hr : ck_r S R) (h8 : S.1 37 8 = Int32.ofNat k0)
    (kn : dt_p1 U R ps i = none → ∀ S2, cf_W cW_gp S S2 → K (.inl (some (.int 0))) S2 0)
    (ks : ∀ u2 m kk, dt_p1 U R ps i = some (u2, m, kk) → ∀ S2, cf_W (cW_g1 i) S S2 → (¬ U i = .leaf → ck_t S2 38 (150 * i) (ct_can u2)) → S2.1 37 8 = Int32.ofNat (k0 + kk) → K (.inl (some (.int 1))) S2 0) :
    cm_At (am_XX L xs) (d + 8) 82 0 [some (.ref 37), some (.int (Int32.ofNat i)), some (.int (Int32.ofNat ps)), none, none, none] [] S K := by
  obtain ⟨u1, u2, u3, u4⟩ := dt_U0 hU hi
  have hwf := ct_ds_wf hU
  have m1 : ∀ {S1 S2 : cm_S}, cf_W (cW_g1 i) S1 S2 → cf_W cW_gp S1 S2 := fun hc => cf_mono hc (fun b j h => decide_eq_true (by have h := of_decide_eq_true h; omega))
  refine cx_82_0 _ _ ?_
  refine cp_165 (cp_r1 ?_)
  rw [cp_rt]
  rintro _ rfl
  refine cx_47_0 ?_
  rintro _ rfl
  refine cp_r0 ?_
  have f0 : cf_W (fun b j => decide (b = 37 ∧ j = 7 ∨ b = 50 ∧ j = 6)) S (cm_wI (cm_wI S 37 7 8192) 50 6 150) := cf_tr (cf_wI (decide_eq_true (by omega))) (cf_wI (decide_eq_true (by omega)))
  have g0 : dk_gs (cm_wI (cm_wI S 37 7 8192) 50 6 150) 8192 150 k0 := by
    refine ⟨?_, ?_, ?_⟩
    · rw [cp_wI1, if_neg (by omega), cp_wI1, if_pos ⟨rfl, rfl⟩]; rfl
    · rw [cp_wI1, if_pos ⟨rfl, rfl⟩]; rfl
    · rw [cp_wI1, if_neg (by omega), cp_wI1, if_neg (by omega)]; exact h8
  have d0 := ck_d_fr (a := 27) f0 (fun b j q1 q2 => decide_eq_false (by omega)) hdU
  have r0 := ck_r_cf f0 (decide_eq_false (by omega)) (fun j => decide_eq_false (by omega)) hr
  have f0g : cf_W (cW_g1 i) S (cm_wI (cm_wI S 37 7 8192) 50 6 150) := cf_mono f0 (fun b j h => decide_eq_true (by have h := of_decide_eq_true h; omega))
  have q0 : ps = 4 → ck_q (cm_wI (cm_wI S 37 7 8192) 50 6 150) 35 (cu_lim U) := fun h4 g hg => by
    rw [(f0 35 g (decide_eq_false (by omega))).1]
    exact hq h4 g hg
  generalize cm_wI (cm_wI S 37 7 8192) 50 6 150 = S0 at f0 g0 d0 r0 f0g q0 ⊢
  -- the loop from any state
  have loop : ∀ (S1 : cm_S) (q4 : Int32), cf_W (cW_g1 i) S S1 → ck_d S1 27 U → ck_r S1 R → dk_gs S1 8192 150 k0 → (ps = 4 → ck_sa (cu_lim U) (cu_M U) S1 (U i) 0) → q4 = Int32.ofNat (150 * i + ct_sz (U i)) - 1 → cm_At (am_XX L xs) (d + 8) 82 44 [some (.ref 37), some (.int (Int32.ofNat i)), some (.int (Int32.ofNat ps)), some (.int (Int32.ofNat (150 * i))), some (.int q4), none] [] S1 K := by
    intro S1 q4 f1 d1 r1 g1 s1 hq4
    rw [hq4]
    have ht : ck_t S1 27 (150 * i + 0) (U i) := by
      by_cases hl : U i = .leaf
      · rw [hl]; exact ⟨ck_f_nil, ck_z_nil, by rw [dk_cap.2.2.1]; show 150 * i + 0 + 0 ≤ 1200; omega⟩
      · exact (d1 i hi).2 hl
    refine cp_82t (d := d + 1) (r0 := 150 * i) (ps := ps) (Q := cu_lim U) hU (dt_DU hU).1 hR hps8 (dt_gU hU hR) (by omega) (U i) u1.1 0 8192 150 k0 (fun _ => False) S1 none u1 u2 dt_gc_F u3 (Nat.le_refl _) (by omega) (fun h4 => ⟨rfl, s1 h4⟩) (by omega) (by omega) (by omega) d1 r1 ht g1 (fun hnone S2 f2 => ?_) (fun v m kk hs S2 o5 f2 g2 t2 => ?_)
    · exact kn hnone S2 (cf_tr (m1 f1) (cf_mono f2 (fun b j h => decide_eq_true (by have h := of_decide_eq_true h; omega))))
    · obtain ⟨v1, v2, v3, v4, v5⟩ := dt_p1_ok hU hR hi hs
      have f2g : cf_W (cW_g1 i) S1 S2 := cf_mono f2 (fun b j h => decide_eq_true (by have h := of_decide_eq_true h; omega))
      refine cx_82_44 _ _ _ _ _ ⟨fun _ => ?_, fun h => absurd (cp_m1lt (by omega)) h⟩
      rintro _ rfl
      rw [g2.1]
      by_cases hl : U i = .leaf
      · have hv0 : ct_sz v = 0 := by rw [v1.mpr hl]; rfl
        refine cp_28z (a := 38) (c := 44) (by decide) (by decide) ?_ (cp_r0 ⟨Or.inr rfl, ?_⟩)
        · rw [hv0]
          unfold cp_g
          rw [if_neg (by rw [cp_tI (by omega)]; rw [dk_cap.2.1]; omega)]
        · exact ks v m kk hs S2 (cf_tr f1 f2g) (fun h => absurd hl h) g2.2.2
      · have hco := v5 hl
        refine cp_28 (a := 38) (c := 44) (by decide) (by decide) (by decide) hco.1 hco.2.1 hco.2.2.1 (ct_co_bo hco) (by rw [dk_cap.2.2.2]; omega) t2 (fun S3 t3 f3 => cp_r0 ⟨Or.inr rfl, ?_⟩)
        have f3g : cf_W (cW_g1 i) S2 S3 := cf_mono f3 (fun b j h => decide_eq_true (by have h := of_decide_eq_true h; omega))
        refine ks v m kk hs S3 (cf_tr f1 (cf_tr f2g f3g)) (fun _ => t3) ?_
        rw [(f3 37 8 (decide_eq_false (by omega))).1]
        exact g2.2.2
  have h13 : ∀ {S1 : cm_S} {K2 : cm_K}, ck_d S1 27 U → K2 (.inl (some (.int (Int32.ofNat (150 * i + ct_sz (U i)))))) S1 0 → cm_At (am_XX L xs) (d + 7) 13 0 [some (.ref 27), some (.int (Int32.ofNat (150 * i)))] [] S1 K2 := fun {S1 K2} hd1 hk => by
    by_cases hl : U i = .leaf
    · refine cp_13 (by decide) ?_
      rw [cp_g_at (by rw [dk_cap.2.2.1]; omega) (by decide +kernel), ((hd1 i hi).1 hl).1, Int32.add_zero]
      rw [hl] at hk
      exact hk
    · exact cp_13t (by decide) ((hd1 i hi).2 hl) u1.1 hl hk
  have hp4 : Int32.ofNat ps = 4 ↔ ps = 4 := by rw [show (4 : Int32) = Int32.ofNat 4 from rfl, cp_inj (by omega) (by omega)]
  simp only [dk_sh0]
  rw [hp4]
  refine ⟨fun h4 => ?_, fun h4 => ?_⟩
  · have fin : ∀ S1, cf_W cW_dm S0 S1 → ck_sa (cu_lim U) (cu_M U) S1 (U i) 0 → cm_At (am_XX L xs) (d + 7) 13 0 [some (.ref 27), some (.int (Int32.ofNat (150 * i)))] [] S1 (fun r S16 k17 => cm_r1 (fun x19 => cm_At (am_XX L xs) (d + 8) 82 44 [some (.ref 37), some (.int (Int32.ofNat i)), some (.int (Int32.ofNat ps)), some (.int (Int32.ofNat (150 * i))), some (.int (x19 - 1)), none] [] S16 (cm_sh K k17)) (fun e18 => K (.inr e18) S16 k17) r) := fun S1 f1 s1 => by
      have d1 := ck_d_fr (a := 27) f1 (fun b j q1 q2 => decide_eq_false (by omega)) d0
      refine h13 d1 (cp_r1 ?_)
      rw [dk_sh0]
      refine loop S1 _ (cf_tr f0g (cf_mono f1 (fun b j h => decide_eq_true (by have h := of_decide_eq_true h; omega)))) d1 (ck_r_cf f1 (decide_eq_false (by omega)) (fun j => decide_eq_false (by omega)) r0) ⟨?_, ?_, ?_⟩ (fun _ => s1) rfl
      · rw [(f1 37 7 (decide_eq_false (by omega))).1]; exact g0.1
      · rw [(f1 50 6 (decide_eq_false (by omega))).1]; exact g0.2.1
      · rw [(f1 37 8 (decide_eq_false (by omega))).1]; exact g0.2.2
    by_cases hl : U i = .leaf
    · refine cp_39e (U := U) (d := d + 2) hi hl d0 (fun S1 f1 => cp_r0 ?_)
      simp only [dk_sh0]
      exact fin S1 f1 (by rw [hl]; trivial)
    · obtain ⟨hco, hcan⟩ := hU i hi hl
      refine cp_39 (U := U) (d := d + 2) (Q := cu_lim U) hwf (fun g k h => by have := cu_it_al 32 g k h; have := cu_M_le (U := U) (g := g); omega) hi hl (q0 h4) d0 hco.2.2.2.2.2.2.1 (fun e he => ?_) hco.2.2.1 hco.2.2.2.2.2.2.2 (fun S1 f1 r1 s1 => cp_r0 ?_)
      · rcases (cu_ok_can hco hcan e he).1 with h | h
        · exact Or.inl h
        · exact Or.inr ⟨h.1, by omega⟩
      · simp only [dk_sh0]
        exact fin S1 f1 s1
  · refine h13 d0 (cp_r1 ?_)
    rw [dk_sh0]
    exact loop S0 _ f0g d0 r0 g0 (fun h => absurd h h4) rfl
/-- the next cores are those that count -/
theorem cp_83l {V : Nat → ct_T} {x8 : Int32} (hU : ct_ds U) (hV : ct_ds V) (hUV : ∀ i, i < 8 → (V i = .leaf ↔ U i = .leaf)) : ∀ (n i : Nat) (S : cm_S) (K : cm_K), i + n = 8 → S.1 37 8 = x8 → ck_d S 27 (fun j => if j < i then V j else U j) → (∀ j, j < 8 → ¬ V j = .leaf → ck_t S 38 (150 * j) (V j)) →
    (∀ S2, cf_W (fun b _ => decide (28 ≤ b ∧ b ≤ 32)) S S2 → ck_d S2 27 V → K (.inl (some (.int x8))) S2 0) →
    cm_At (am_XX L xs) (d + 4) 83 2 [some (.ref 37), some (.int (Int32.ofNat i))] [] S K
  | 0, i, S, K, hn, h8, hd, hv, k => by
    have hi : i = 8 := by omega
    subst hi
    refine cx_83_2 _ ⟨fun h => absurd h (by decide), fun _ => ?_⟩
    rintro _ rfl
    rw [h8]
    refine k S cf_rfl (fun j hj => ?_)
    have := hd j hj
    dsimp only at this
    rw [if_pos hj] at this
    exact this
  | n + 1, i, S, K, hn, h8, hd, hv, k => by
    have hUwf := ct_ds_wf hU
    have hVwf := ct_ds_wf hV
    have hszU : ∀ j, j < 8 → ct_sz (U j) ≤ 150 := fun j hj => by
      by_cases hl : U j = .leaf
      · rw [hl]; show (0 : Nat) ≤ 150; omega
      · exact (hU j hj hl).1.2.2.2.2.2.2.2
    have hszV : ∀ j, j < 8 → ct_sz (V j) ≤ 150 := fun j hj => by
      by_cases hl : V j = .leaf
      · rw [hl]; show (0 : Nat) ≤ 150; omega
      · exact (hV j hj hl).1.2.2.2.2.2.2.2
    have hi : i < 8 := by omega
    have hdi := hd i hi
    dsimp only at hdi
    rw [if_neg (by omega)] at hdi
    refine cx_83_2 _ ⟨fun _ => ?_, fun h => absurd (by rw [show (8 : Int32) = Int32.ofNat 8 from rfl, cp_lt (by omega) (by omega)]; omega) h⟩
    refine cp_165 (cp_r1 ?_)
    rw [cp_rt]
    refine cp_12 (by decide) (cp_r1 ?_)
    by_cases hl : U i = .leaf
    · rw [cp_g_at (by rw [dk_cap.2.2.1]; omega) (by decide +kernel), (hdi.1 hl).1]
      refine ⟨fun h => absurd h (by decide), fun _ => ?_⟩
      simp only [dk_sh0]
      rw [show (1 : Int32) = Int32.ofNat 1 from rfl, cp_ad]
      refine cp_83l hU hV hUV n (i + 1) S K (by omega) h8 (fun j hj => ?_) hv k
      have h2 := hd j hj
      dsimp only at h2 ⊢
      by_cases hji : j = i
      · subst hji
        rw [if_pos (by omega), (hUV j hj).mpr hl]
        rw [if_neg (by omega), hl] at h2
        exact h2
      · by_cases hlt : j < i
        · rw [if_pos hlt] at h2; rw [if_pos (by omega)]; exact h2
        · rw [if_neg hlt] at h2; rw [if_neg (by omega)]; exact h2
    · have hlv : ¬ V i = .leaf := fun hc => hl ((hUV i hi).mp hc)
      have s0 := ct_sz_ne (hUwf i hi) hl
      have sU := hszU i hi
      have sV := hszV i hi
      rw [cp_sz (a := 27) (by decide) (hdi.2 hl) (hUwf i hi) hl, dk_pos (by omega)]
      refine ⟨fun _ => ?_, fun h => absurd s0 h⟩
      refine cp_165 (cp_r1 ?_)
      rw [cp_rt]
      refine cp_165 (cp_r1 ?_)
      rw [cp_rt]
      refine cp_21 (a := 27) (c := 38) (by decide) (by decide) (by decide) (hVwf i hi) hlv (hv i hi hlv) (by rw [dk_cap.2.2.1]; omega) (fun S2 t2 f2 => cp_r0 ?_)
      simp only [dk_sh0]
      rw [show (1 : Int32) = Int32.ofNat 1 from rfl, cp_ad]
      have f2w : cf_W (fun b _ => decide (28 ≤ b ∧ b ≤ 32)) S S2 := cf_mono f2 (fun b j h => decide_eq_true (by have h := of_decide_eq_true h; omega))
      refine cp_83l hU hV hUV n (i + 1) S2 K (by omega) (by rw [(f2 37 8 (decide_eq_false (by omega))).1]; exact h8) (fun j hj => ?_) (fun j hj hj2 => ck_t_cf f2 (fun b j q1 q2 _ _ => decide_eq_false (by omega)) (hv j hj hj2)) (fun S3 f3 d3 => k S3 (cf_tr f2w f3) d3)
      have h2 := hd j hj
      dsimp only at h2 ⊢
      by_cases hji : j = i
      · subst hji
        rw [if_pos (by omega)]
        exact ⟨fun h => absurd h hlv, fun _ => t2⟩
      · have tr : ∀ W : ct_T, ct_sz W ≤ 150 → ((W = .leaf → S.1 (27 + 5) (150 * j) = 0 ∧ ¬ S.1 (27 + 1) (150 * j) = 4) ∧ (¬ W = .leaf → ck_t S 27 (150 * j) W)) → ((W = .leaf → S2.1 (27 + 5) (150 * j) = 0 ∧ ¬ S2.1 (27 + 1) (150 * j) = 4) ∧ (¬ W = .leaf → ck_t S2 27 (150 * j) W)) := fun W hW h => by
          refine ⟨fun hl => ?_, fun hl => ck_t_cf f2 (fun b q q1 q2 q3 q4 => decide_eq_false (by omega)) (h.2 hl)⟩
          rw [(f2 (27 + 5) (150 * j) (decide_eq_false (by omega))).1, (f2 (27 + 1) (150 * j) (decide_eq_false (by omega))).1]
          exact h.1 hl
        by_cases hlt : j < i
        · rw [if_pos hlt] at h2; rw [if_pos (by omega)]; exact tr _ (hszV j hj) h2
        · rw [if_neg hlt] at h2; rw [if_neg (by omega)]; exact tr _ (hszU j hj) h2
/-- all cores one after another -/
theorem cp_143l {ps : Nat} (hU : ct_ds U) (hR : ∀ q, q ∈ R → ct_rok q) (hps8 : ps < 8) : ∀ (n i : Nat) (S : cm_S) (K : cm_K), i + n = 8 → (ps = 4 → ck_q S 35 (cu_lim U)) → ck_d S 27 U → ck_r S R → S.1 37 8 = Int32.ofNat (dt_ks (dt_p1 U R ps) i) → (∀ j, j < i → (∃ r, dt_p1 U R ps j = some r)) → (∀ j, j < i → ¬ U j = .leaf → ck_t S 38 (150 * j) (dt_nu (dt_p1 U R ps) j)) →
    ((∃ j, j < 8 ∧ dt_p1 U R ps j = none) → ∀ S2, cf_W cW_gp S S2 → K (.inr 2) S2 1) →
    ((∀ j, j < 8 → ∃ r, dt_p1 U R ps j = some r) → ∀ S2, cf_W (fun b j => cW_gp b j || decide (28 ≤ b ∧ b ≤ 32)) S S2 → ck_d S2 27 (dt_nu (dt_p1 U R ps)) → K (.inl (some (.int (Int32.ofNat (dt_ks (dt_p1 U R ps) 8))))) S2 0) →
    cm_At (am_XX L xs) (d + 9) 143 27 [some (.ref 0), some (.int (Int32.ofNat ps)), some (.int (Int32.ofNat i))] [] S K
  | 0, i, S, K, hn, hq, hd, hr, h8, hs, ht, k1, k2 => by
    have hi : i = 8 := by omega
    subst hi
    obtain ⟨v1, v2⟩ := dt_nu_ds (ps := ps) hU hR
    refine cx_143_27 _ _ ⟨fun h => absurd h (by decide), fun _ => ?_⟩
    refine cx_83_0 ?_
    refine cp_83l (d := d + 4) hU v1 (fun j hj => v2 j hj (hs j hj)) 8 0 S _ (by omega) h8 (fun j hj => ?_) (fun j hj hl => ht j hj (fun hc => hl ((v2 j hj (hs j hj)).mpr hc))) (fun S2 f2 d2 => cp_r1 ?_)
    · have := hd j hj
      exact this
    · exact k2 hs S2 (cf_mono f2 (fun b j h => by rw [h, Bool.or_true])) d2
  | n + 1, i, S, K, hn, hq, hd, hr, h8, hs, ht, k1, k2 => by
    have hi : i < 8 := by omega
    refine cx_143_27 _ _ ⟨fun _ => ?_, fun h => absurd (by rw [show (8 : Int32) = Int32.ofNat 8 from rfl, cp_lt (by omega) (by omega)]; omega) h⟩
    refine cp_82 (d := d) hU hR hps8 hi hq hd hr h8 (fun hnone S2 f2 => cp_r1 ?_) (fun u2 m kk hsome S2 f2 t2 w2 => cp_r1 ?_)
    · exact ⟨fun _ => k1 ⟨i, hi, hnone⟩ S2 f2, fun h => absurd rfl h⟩
    · refine ⟨fun h => absurd h (by decide), fun _ => ?_⟩
      rw [dk_sh0, show (1 : Int32) = Int32.ofNat 1 from rfl, cp_ad]
      have f2p : cf_W cW_gp S S2 := cf_mono f2 (fun b j h => decide_eq_true (by have h := of_decide_eq_true h; omega))
      have hnu : dt_nu (dt_p1 U R ps) i = ct_can u2 := by unfold dt_nu dt_V; rw [hsome]
      have hkc : dt_kc (dt_p1 U R ps) i = kk := by unfold dt_kc; rw [hsome]
      have v2 := (dt_nu_ds (ps := ps) hU hR).2
      refine cp_143l hU hR hps8 n (i + 1) S2 K (by omega) (fun h4 g hg => by rw [(f2 35 g (decide_eq_false (by omega))).1]; exact hq h4 g hg) (ck_d_fr (a := 27) f2 (fun b j q1 q2 => decide_eq_false (by omega)) hd) (ck_r_cf f2 (decide_eq_false (by omega)) (fun j => decide_eq_false (by omega)) hr) ?_ (fun j hj => ?_) (fun j hj hl => ?_) (fun he S3 f3 => k1 he S3 (cf_tr f2p f3)) (fun he S3 f3 d3 => k2 he S3 (cf_tr (cf_mono f2p (fun b j h => by rw [h, Bool.true_or])) f3) d3)
      · rw [w2]
        show _ = Int32.ofNat (dt_ks (dt_p1 U R ps) i + dt_kc (dt_p1 U R ps) i)
        rw [hkc]
      · by_cases hji : j = i
        · subst hji; exact ⟨_, hsome⟩
        · exact hs j (by omega)
      · by_cases hji : j = i
        · subst hji; rw [hnu]; exact t2 hl
        · have hj8 : j < 8 := by omega
          have hco := (dt_nu_ds (ps := ps) hU hR).1 j hj8 (fun hc => hl ((v2 j hj8 (hs j (by omega))).mp hc))
          have hz := hco.1.2.2.2.2.2.2.2
          exact ck_t_cf f2 (fun b q q1 q2 q3 q4 => decide_eq_false (by omega)) (ht j (by omega) hl)
/-- a pass, as the law has it of the class -/
theorem cq_pass {S : cm_S} {K : cm_K} {p : Int32} (hU : ct_ds U) (hR : ∀ q, q ∈ R → ct_rok q) (hd : ck_d S 27 U) (hr : ck_r S R)
    (k1 : ¬ (0 ≤ p.toInt ∧ p.toInt < 8) → K (.inl (some (.int 1))) S 1)
    (k2 : ∀ ps, p = Int32.ofNat ps → ps < 8 → (∃ j, j < 8 ∧ dt_p1 U R ps j = none) → ∀ S2, cf_W cW_gp S S2 → K (.inl (some (.int 2))) S2 1)
    (k3 : ∀ ps, p = Int32.ofNat ps → ps < 8 → (∀ j, j < 8 → ∃ r, dt_p1 U R ps j = some r) → ∀ S2, cf_W (fun b j => cW_gp b j || decide (28 ≤ b ∧ b ≤ 32 ∨ b = 132)) S S2 → ck_d S2 27 (dt_nu (dt_p1 U R ps)) → S2.2 132 0 = (Int32.ofNat (dt_ks (dt_p1 U R ps) 8)).toInt64 → K (.inl (some (.int 0))) S2 0) :
    cm_At (am_XX L xs) (d + 60) 289 0 [some (.ref 0), some (.int p), some (.ref 132), none] [] S K := by
  refine cx_289_0 _ ?_
  refine cx_143_0 _ ?_
  refine cp_161k (b := 8) rfl (fun hp => cp_r0 ?_) (fun hp => cp_x0 ?_)
  rotate_left
  · exact ⟨by decide, fun h => absurd h (by decide), fun _ => k1 hp, fun h => absurd h (by decide)⟩
  obtain ⟨ps, rfl, hps, _⟩ := cp_of hp.1
  have hps8 : ps < 8 := by omega
  refine cx_81_0 ?_
  rintro _ rfl
  refine cp_r0 ?_
  have f0 : cf_W (fun b j => decide (b = 37 ∧ j = 8)) S (cm_wI S 37 8 0) := cf_wI (decide_eq_true (by omega))
  have h8 : (cm_wI S 37 8 0).1 37 8 = Int32.ofNat (dt_ks (dt_p1 U R ps) 0) := by rw [cp_wI1, if_pos ⟨rfl, rfl⟩]; rfl
  have d0 := ck_d_fr (a := 27) f0 (fun b j q1 q2 => decide_eq_false (by omega)) hd
  have r0 := ck_r_cf f0 (decide_eq_false (by omega)) (fun j => decide_eq_false (by omega)) hr
  have f0g : cf_W cW_gp S (cm_wI S 37 8 0) := cf_mono f0 (fun b j h => decide_eq_true (by have h := of_decide_eq_true h; omega))
  generalize cm_wI S 37 8 0 = S0 at f0 h8 d0 r0 f0g ⊢
  have hp4 : Int32.ofNat ps = 4 ↔ ps = 4 := by rw [show (4 : Int32) = Int32.ofNat 4 from rfl, cp_inj (by omega) (by omega)]
  simp only [dk_sh0]
  rw [hp4]
  have go : ∀ (S1 : cm_S), cf_W cW_gp S S1 → (ps = 4 → ck_q S1 35 (cu_lim U)) → ck_d S1 27 U → ck_r S1 R → S1.1 37 8 = Int32.ofNat (dt_ks (dt_p1 U R ps) 0) → ∀ (K2 : cm_K), ((∃ j, j < 8 ∧ dt_p1 U R ps j = none) → ∀ S2, cf_W cW_gp S S2 → K2 (.inr 2) S2 1) →
    ((∀ j, j < 8 → ∃ r, dt_p1 U R ps j = some r) → ∀ S2, cf_W (fun b j => cW_gp b j || decide (28 ≤ b ∧ b ≤ 32)) S S2 → ck_d S2 27 (dt_nu (dt_p1 U R ps)) → K2 (.inl (some (.int (Int32.ofNat (dt_ks (dt_p1 U R ps) 8))))) S2 0) → cm_At (am_XX L xs) (d + 59) 143 27 [some (.ref 0), some (.int (Int32.ofNat ps)), some (.int 0)] [] S1 K2 := fun S1 f1 q1 d1 r1 w1 K2 c1 c2 =>
    cp_143l (d := d + 50) hU hR hps8 8 0 S1 K2 (by omega) q1 d1 r1 w1 (fun j hj => absurd hj (by omega)) (fun j hj => absurd hj (by omega)) (fun he S2 f2 => c1 he S2 (cf_tr f1 f2)) (fun he S2 f2 d2 => c2 he S2 (cf_tr (cf_mono f1 (fun b j h => by rw [h, Bool.true_or])) f2) d2)
  refine ⟨fun h4 => ?_, fun h4 => ?_⟩
  · refine cp_35 (d := d + 51) hU d0 (fun S1 f1 q1 q2 => cp_r0 ?_)
    have f1g : cf_W cW_gp S S1 := cf_tr f0g (cf_mono f1 (fun b j h => decide_eq_true (by have h := of_decide_eq_true h; omega)))
    simp only [dk_sh0]
    refine go S1 f1g (fun _ => q1) (ck_d_fr (a := 27) f1 (fun b j q1 q2 => decide_eq_false (by omega)) d0) (ck_r_cf f1 (decide_eq_false (by omega)) (fun j => decide_eq_false (by omega)) r0) (by rw [(f1 37 8 (decide_eq_false (by omega))).1]; exact h8) _ (fun he S2 f2 => cp_x1 ?_) (fun he S2 f2 d2 => cp_r1 ?_)
    · exact ⟨by decide, fun h => absurd h (by decide), fun h => absurd h (by decide), fun _ => k2 ps rfl hps8 he S2 f2⟩
    · refine ⟨by decide, ?_⟩
      rintro _ rfl
      refine k3 ps rfl hps8 he _ (cf_tr (cf_mono f2 (fun b j h => ?_)) (cf_wJ (by rw [decide_eq_true (by omega : 28 ≤ 132 ∧ 132 ≤ 32 ∨ 132 = 132), Bool.or_true]))) (ck_d_fr (W := fun b _ => decide (b = 132)) (a := 27) (cf_wJ (decide_eq_true rfl)) (fun b j q1 q2 => decide_eq_false (by omega)) d2) (by rw [cp_wJ2, if_pos ⟨rfl, rfl⟩])
      rcases Bool.or_eq_true_iff.mp h with h | h
      · rw [h, Bool.true_or]
      · rw [decide_eq_true (by have h := of_decide_eq_true h; omega), Bool.or_true]
  · refine go S0 f0g (fun h => absurd h h4) d0 r0 h8 _ (fun he S2 f2 => cp_x1 ?_) (fun he S2 f2 d2 => cp_r1 ?_)
    · exact ⟨by decide, fun h => absurd h (by decide), fun h => absurd h (by decide), fun _ => k2 ps rfl hps8 he S2 f2⟩
    · refine ⟨by decide, ?_⟩
      rintro _ rfl
      refine k3 ps rfl hps8 he _ (cf_tr (cf_mono f2 (fun b j h => ?_)) (cf_wJ (by rw [decide_eq_true (by omega : 28 ≤ 132 ∧ 132 ≤ 32 ∨ 132 = 132), Bool.or_true]))) (ck_d_fr (W := fun b _ => decide (b = 132)) (a := 27) (cf_wJ (decide_eq_true rfl)) (fun b j q1 q2 => decide_eq_false (by omega)) d2) (by rw [cp_wJ2, if_pos ⟨rfl, rfl⟩])
      rcases Bool.or_eq_true_iff.mp h with h | h
      · rw [h, Bool.true_or]
      · rw [decide_eq_true (by have h := of_decide_eq_true h; omega), Bool.or_true]
end CPa08
