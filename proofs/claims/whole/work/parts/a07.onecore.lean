/-! ## a07 Passes of the class: a whole core -/
/-- the pass that forces keeps sizes and what is needed -/
theorem dt_pa_st {C : Nat → ct_T} {Q : Nat → Nat → Bool} {M : Nat → Nat} {R : List (Int32 × Int32 × Int32 × Int32)} {o : Bool} : ∀ t, ct_wf t → ∀ (n m k : Nat) (t2 : ct_T), dt_pa (dt_dn C R (cu_nq Q M) 4) o t n = some (t2, m, k) → m = n ∧ ct_sz t2 = ct_sz t ∧ (∀ v, cu_n2 Q M t2 v = cu_n2 Q M t v) ∧ cu_gl t2 = cu_gl t ∧ cu_ar t2 = cu_ar t :=
  ct_ind (fun n m k t2 h => by
    rw [dt_pa_lf] at h
    cases h
    exact ⟨rfl, rfl, fun _ => rfl, rfl, rfl⟩) (fun e a b c hw iha ihb ihc n m k t2 h => by
    obtain ⟨na, nb, nc, ma, mb, mc, ka, kb, kc, q, a2, b2, c2, h1, h2, h3, h4, ho⟩ := dt_pa_in h
    obtain ⟨a1, a3, a4, a5, a6⟩ := iha _ _ _ _ h1
    obtain ⟨b1, b3, b4, b5, b6⟩ := ihb _ _ _ _ h2
    obtain ⟨c1, c3, c4, c5, c6⟩ := ihc _ _ _ _ h3
    have hq : q = n := by rcases ho with ho | ho <;> omega
    subst hq
    have hn2 : ∀ v, cu_n2 Q M (ct_nd e a2 b2 c2) v = cu_n2 Q M (ct_nd e a b c) v := fun v => by
      rw [cu_n2_nd, cu_n2_nd, a4, a5, a6, b4, b4, c4]
    have hgl : cu_gl (ct_nd e a2 b2 c2) = cu_gl (ct_nd e a b c) := by
      show (if e.1 = 5 then cu_gl a2 else if e.1 = 3 then some e.2.1.toInt32.toNatClampNeg else none) = (if e.1 = 5 then cu_gl a else if e.1 = 3 then some e.2.1.toInt32.toNatClampNeg else none)
      rw [a5]
    have har : cu_ar (ct_nd e a2 b2 c2) = cu_ar (ct_nd e a b c) := by
      show (if e.1 = 5 then cu_ar a2 + 1 else 0) = (if e.1 = 5 then cu_ar a + 1 else 0)
      rw [a6]
    have hsz : ct_sz (ct_nd e a2 b2 c2) = ct_sz (ct_nd e a b c) := by rw [ct_sz_nd, ct_sz_nd, a3, b3, c3]
    unfold dt_fn at h4
    split at h4
    · split at h4
      · cases h4
        exact ⟨rfl, hsz, hn2, hgl, har⟩
      · cases h4
    · next r hr =>
      split at h4
      · cases h4
        unfold dt_dn at hr
        rw [if_neg (by decide), if_neg (by decide), if_neg (by decide), if_neg (by decide), if_pos rfl] at hr
        unfold dt_sr at hr
        split at hr
        · next hc =>
          cases hr
          obtain ⟨_, _, lc⟩ := ct_q2 hw (Or.inr (Or.inl hc.1))
          have hx : (cu_n2 Q M b e.2.2.1.toNatClampNeg).1 = true := by rw [← b4]; exact hc.2
          refine ⟨rfl, ?_, fun v => ?_, ?_, ?_⟩
          · rw [ct_sz_nd, ct_sz_nd, a3, b3, lc]
          · rw [cu_n2_nd, cu_n2_nd, if_neg (show ¬ (8 : Int32) = 2 by decide), if_neg (show ¬ (8 : Int32) = 5 by decide), if_neg (show ¬ (8 : Int32) = 6 by decide), if_neg (show ¬ (8 : Int32) = 7 by decide), if_pos (Or.inl rfl), if_neg (by rw [hc.1]; decide), if_neg (by rw [hc.1]; decide), if_pos hc.1, a4, b4, hx, Bool.true_and, Bool.or_comm]
          · show (none : Option Nat) = (if e.1 = 5 then cu_gl a else if e.1 = 3 then some e.2.1.toInt32.toNatClampNeg else none)
            rw [if_neg (by rw [hc.1]; decide), if_neg (by rw [hc.1]; decide)]
          · show (0 : Nat) = (if e.1 = 5 then cu_ar a + 1 else 0)
            rw [if_neg (by rw [hc.1]; decide)]
        · cases hr
      · cases h4)
def cW_rt (lo hi b j : Nat) : Bool := decide (45 ≤ b ∧ b ≤ 49 ∧ lo ≤ j ∧ j < hi ∨ b = 55 ∨ b = 37 ∧ j = 7)
def cW_gt (T b j : Nat) : Bool := decide (45 ≤ b ∧ b ≤ 49 ∧ j < T ∨ 51 ≤ b ∧ b ≤ 55 ∨ b = 50 ∧ (j = 5 ∨ j = 6) ∨ b = 37 ∧ (j = 7 ∨ j = 8))
def cW_go (b j : Nat) : Bool := decide (45 ≤ b ∧ b ≤ 49 ∨ 51 ≤ b ∧ b ≤ 55 ∨ b = 50 ∧ (j = 5 ∨ j = 6) ∨ b = 37 ∧ (j = 7 ∨ j = 8))
def dk_gs (S : cm_S) (T n k : Nat) : Prop := S.1 37 7 = Int32.ofNat T ∧ S.1 50 6 = Int32.ofNat n ∧ S.1 37 8 = Int32.ofNat k
section CPa07
variable {L : Nat} {xs : Nat → Int32} {d : Nat}
/-- the draft takes the place of the node on top -/
theorem cp_84 {S : cm_S} {K : cm_K} {T0 T n : Nat} {v t : ct_T} (h7 : S.1 37 7 = Int32.ofNat T0) (hv : ck_t S 44 T0 v) (wv : ct_wf v) (lv : ¬ v = .leaf) (hT : T0 + ct_sz v = T) (hT2 : T ≤ 8192) (hd : dk_d S (ct_fl t) n) (wt : ct_wf t) (lt : ¬ t = .leaf) (hs : ct_sz t ≤ 150) (hsT : ct_sz t ≤ T)
    (k : ∀ S2, cf_W (cW_rt (T - ct_sz t) T) S S2 → S2.1 37 7 = Int32.ofNat (T - ct_sz t) → ck_t S2 44 (T - ct_sz t) t → K (.inl none) S2 0) :
    cm_At (am_XX L xs) (d + 4) 84 0 [some (.ref 37), none] [] S K := by
  obtain ⟨d1, d2, d3⟩ := hd
  rw [ct_fl_len] at d1 d2 d3
  obtain ⟨d4, d5⟩ := d3 hs
  refine cx_84_0 ?_
  rintro _ rfl
  rw [h7]
  refine cp_13t (by decide) hv wv lv (cp_r1 ?_)
  rw [hT]
  rintro _ rfl
  rw [d1]
  refine cp_23 (a := 50) (by decide) wt d4 (by rw [dk_cap.1]; exact hs) (fun S1 t1 c1 => cp_r0 ?_)
  rintro _ rfl
  rw [(c1 50 5 (decide_eq_false (by omega))).1, d1, cp_sb hsT]
  rintro _ rfl
  rintro _ rfl
  rw [cp_wI1, if_pos ⟨rfl, rfl⟩]
  have c2 : cf_W (cW_rt (T - ct_sz t) T) S1 (cm_wI S1 37 7 (Int32.ofNat (T - ct_sz t))) := cf_wI (decide_eq_true (by omega))
  have c2w : cf_W (fun b j => decide (b = 37 ∧ j = 7)) S1 (cm_wI S1 37 7 (Int32.ofNat (T - ct_sz t))) := cf_wI (decide_eq_true (by omega))
  refine cp_21 (a := 44) (c := 50) (by decide) (by decide) (by decide) wt lt (ck_t_cf c2w (fun b j q1 q2 _ _ => decide_eq_false (by omega)) t1) (by rw [dk_cap.2.1]; omega) (fun S3 t3 c3 => cp_r0 ?_)
  have c12 : cf_W (cW_rt (T - ct_sz t) T) S (cm_wI S1 37 7 (Int32.ofNat (T - ct_sz t))) := cf_tr (cf_mono c1 (fun b j h => decide_eq_true (by have h := of_decide_eq_true h; omega))) c2
  refine k S3 (cf_tr c12 (cf_mono c3 (fun b j h => decide_eq_true (by have h := of_decide_eq_true h; omega)))) ?_ t3
  rw [(c3 37 7 (decide_eq_false (by omega))).1, cp_wI1, if_pos ⟨rfl, rfl⟩]
theorem cp_48 {S : cm_S} {K : cm_K} {l : Nat} (h : S.1 50 5 = Int32.ofNat l) (hl : l < 100000) (k : K (.inl (some (.int (if 150 < l then 1 else 0)))) S 0) : cm_At (am_XX L xs) (d + 1) 48 0 [some (.ref 50)] [] S K := by
  refine cx_48_0 ?_
  rintro _ rfl
  rw [h, show (150 : Int32) = Int32.ofNat 150 from rfl, cp_lt (by omega) (by omega)]
  refine ⟨fun h => ⟨Or.inr rfl, ?_⟩, fun h => ⟨Or.inl rfl, ?_⟩⟩
  · rw [if_pos h] at k; exact k
  · rw [if_neg h] at k; exact k
/-- the nodes of a core from the last to the first -/
theorem cp_82t {U : Nat → ct_T} {R : List (Int32 × Int32 × Int32 × Int32)} {Q : Nat → Nat → Bool} {r0 ps : Nat} {q1 : Int32} {K : cm_K} (hU : ct_ds U) (hC : dt_C (dt_U U)) (hR : ∀ q, q ∈ R → ct_rok q) (hps8 : ps < 8) (hD : dt_good (dt_dn (dt_U U) R (cu_nq Q (cu_M U)) ps) 150) (hr0 : r0 ≤ 1050) :
    ∀ u, ct_wf u → ∀ (p T n k : Nat) (G : ct_G) (S : cm_S) (o5 : Option Value), dt_w u → dt_bd n u → dt_gc n G u → ct_lx G u → 150 ≤ n → n + 150 * ct_sz u < 900000000 → (ps = 4 → n = 150 ∧ ck_sa Q (cu_M U) S u p) → p + ct_sz u ≤ 150 → 15 * ct_sz u ≤ T → T ≤ 8192 → ck_d S 27 U → ck_r S R → ck_t S 27 (r0 + p) u → dk_gs S T n k →
    (dt_pa (dt_dn (dt_U U) R (cu_nq Q (cu_M U)) ps) true u n = none → ∀ S2, cf_W cW_go S S2 → K (.inl (some (.int 0))) S2 0) →
    (∀ u2 m kk, dt_pa (dt_dn (dt_U U) R (cu_nq Q (cu_M U)) ps) true u n = some (u2, m, kk) → ∀ S2 o5, cf_W (cW_gt T) S S2 → dk_gs S2 (T - ct_sz u2) m (k + kk) → ck_t S2 44 (T - ct_sz u2) u2 → cm_At (am_XX L xs) (d + 7) 82 44 [some (.ref 37), some (.int q1), some (.int (Int32.ofNat ps)), some (.int (Int32.ofNat r0)), some (.int (Int32.ofNat (r0 + p) - 1)), o5] [] S2 K) →
    cm_At (am_XX L xs) (d + 7) 82 44 [some (.ref 37), some (.int q1), some (.int (Int32.ofNat ps)), some (.int (Int32.ofNat r0)), some (.int (Int32.ofNat (r0 + p + ct_sz u) - 1)), o5] [] S K :=
  ct_ind (fun p T n k G S o5 _ _ _ _ _ _ _ _ _ hT _ _ _ hgs _ k2 => k2 .leaf n 0 dt_pa_lf S o5 cf_rfl hgs ⟨ck_f_nil, ck_z_nil, by rw [dk_cap.2.1]; exact hT⟩) (fun e a b c hwf iha ihb ihc p T n k G S o5 hw hbd hgc hl hn hn2 hst hp hT hT2 hdU hr ht hgs k1 k2 => by
    obtain ⟨p1, p2, pa, pb, pc⟩ := dt_w_nd hw
    obtain ⟨bda, bdb, bdc⟩ := dt_bd_nd hbd
    obtain ⟨gca, gcb, gcc⟩ := dt_gc_nd p1 hbd hgc
    obtain ⟨lxa, lxb, lxc⟩ := dt_lx_nd hwf hl
    have hsz := ct_sz_nd (e := e) (a := a) (b := b) (c := c)
    have ht2 := ht
    rw [ck_t_nd] at ht2
    obtain ⟨t0, t1, t2, t3, t4, t5⟩ := ht2
    rw [dt_pa_t] at k1 k2
    rw [show r0 + p + ct_sz (ct_nd e a b c) = r0 + (p + 1 + ct_sz a + ct_sz b) + ct_sz c by omega]
    have m1 : ∀ {T1 T2 : Nat} {S1 S2 : cm_S}, T1 ≤ T2 → cf_W (cW_gt T1) S1 S2 → cf_W (cW_gt T2) S1 S2 := fun h hc => cf_mono hc (fun b j h => decide_eq_true (by have h := of_decide_eq_true h; omega))
    have m2 : ∀ {T1 : Nat} {S1 S2 : cm_S}, cf_W (cW_gt T1) S1 S2 → cf_W cW_go S1 S2 := fun hc => cf_mono hc (fun b j h => decide_eq_true (by have h := of_decide_eq_true h; omega))
    have m3 : ∀ {T1 : Nat} {S1 S2 : cm_S}, cf_W (cW_gt T1) S1 S2 → ck_d S1 27 U → ck_d S2 27 U := fun hc h => ck_d_fr (a := 27) hc (fun b j q1 q2 => decide_eq_false (by omega)) h
    have m4 : ∀ {T1 : Nat} {S1 S2 : cm_S}, cf_W (cW_gt T1) S1 S2 → ck_r S1 R → ck_r S2 R := fun hc h => ck_r_cf hc (decide_eq_false (by omega)) (fun j => decide_eq_false (by omega)) h
    have m5 : ∀ {T1 q : Nat} {S1 S2 : cm_S} {u : ct_T}, cf_W (cW_gt T1) S1 S2 → ck_t S1 27 q u → ck_t S2 27 q u := fun hc h => ck_t_cf hc (fun b j q1 q2 _ _ => decide_eq_false (by omega)) h
    have m6 : ∀ {T1 q : Nat} {S1 S2 : cm_S} {u : ct_T}, cf_W (cW_gt T1) S1 S2 → ct_wf u → ck_sa Q (cu_M U) S1 u q → ck_sa Q (cu_M U) S2 u q := fun hc w h => ck_sa_cf hc _ w _ (fun j q1 q2 => decide_eq_false (by omega)) h
    have m7 : ∀ {T1 q : Nat} {S1 S2 : cm_S} {u : ct_T}, cf_W (cW_gt T1) S1 S2 → T1 ≤ q → ck_t S1 44 q u → ck_t S2 44 q u := fun hc hq h => ck_t_cf hc (fun b j q1 q2 q3 _ => decide_eq_false (by omega)) h
    have hstn : ps = 4 → ck_sb S p (cu_nq Q (cu_M U) (ct_nd e a b c)) ∧ ck_sa Q (cu_M U) S a (p + 1) ∧ ck_sa Q (cu_M U) S b (p + 1 + ct_sz a) ∧ ck_sa Q (cu_M U) S c (p + 1 + ct_sz a + ct_sz b) := fun h4 => ck_sa_nd.mp (hst h4).2
    refine ihc (p + 1 + ct_sz a + ct_sz b) T n k _ S o5 pc bdc gcc lxc hn (by omega) (fun h4 => ⟨(hst h4).1, (hstn h4).2.2.2⟩) (by omega) (by omega) hT2 hdU hr (by rw [show r0 + (p + 1 + ct_sz a + ct_sz b) = r0 + p + 1 + ct_sz a + ct_sz b by omega]; exact t5) hgs (fun hnone S2 f2 => k1 (by rw [hnone]; rfl) S2 f2) (fun c2 mc kc hc Sc oc fc gsc tc => ?_)
    have rc := dt_pa_ok hD c pc.1 n _ c2 mc kc pc bdc gcc lxc hn (by omega) hc
    have sc := (dt_pa_gr hC hD c pc.1 n _ c2 mc kc pc bdc gcc lxc hn (by omega) hc).1
    rw [hc] at k1 k2
    have rc1 := rc.1
    have rc2 := rc.2.1
    have stc : ps = 4 → mc = 150 ∧ ct_sz c2 = ct_sz c := fun h4 => by
      subst h4
      have := dt_pa_st c pc.1 _ _ _ _ hc
      exact ⟨by rw [this.1]; exact (hst rfl).1, this.2.1⟩
    rw [show r0 + (p + 1 + ct_sz a + ct_sz b) = r0 + (p + 1 + ct_sz a) + ct_sz b by omega]
    refine ihb (p + 1 + ct_sz a) (T - ct_sz c2) mc (k + kc) _ Sc oc pb (dt_bd_mo rc1 bdb) (dt_gc_mo rc1 gcb) lxb (by omega) (by omega) (fun h4 => ⟨(stc h4).1, m6 fc pb.1 (hstn h4).2.2.1⟩) (by omega) (by omega) (by omega) (m3 fc hdU) (m4 fc hr) (m5 fc (by rw [show r0 + (p + 1 + ct_sz a) = r0 + p + 1 + ct_sz a by omega]; exact t4)) gsc (fun hnone S2 f2 => k1 (by show Option.bind (dt_pa _ true b mc) _ = none; rw [hnone]; rfl) S2 (cf_tr (m2 fc) f2)) (fun b2 mb kb hb Sb ob fb gsb tb => ?_)
    have rb := dt_pa_ok hD b pb.1 mc _ b2 mb kb pb (dt_bd_mo rc1 bdb) (dt_gc_mo rc1 gcb) lxb (by omega) (by omega) hb
    have sb := (dt_pa_gr hC hD b pb.1 mc _ b2 mb kb pb (dt_bd_mo rc1 bdb) (dt_gc_mo rc1 gcb) lxb (by omega) (by omega) hb).1
    have rb1 := rb.1
    have rb2 := rb.2.1
    have stb : ps = 4 → mb = 150 ∧ ct_sz b2 = ct_sz b ∧ ∀ v, cu_n2 Q (cu_M U) b2 v = cu_n2 Q (cu_M U) b v := fun h4 => by
      subst h4
      have := dt_pa_st b pb.1 _ _ _ _ hb
      exact ⟨by rw [this.1]; exact (stc rfl).1, this.2.1, this.2.2.1⟩
    have fcb := cf_tr fc (m1 (Nat.sub_le T (ct_sz c2)) fb)
    rw [show r0 + (p + 1 + ct_sz a) = r0 + (p + 1) + ct_sz a by omega]
    refine iha (p + 1) (T - ct_sz c2 - ct_sz b2) mb (k + kc + kb) _ Sb ob pa (dt_bd_mo (Nat.le_trans rc1 rb1) bda) (dt_gc_mo (Nat.le_trans rc1 rb1) gca) lxa (by omega) (by omega) (fun h4 => ⟨(stb h4).1, m6 fcb pa.1 (hstn h4).2.1⟩) (by omega) (by omega) (by omega) (m3 fcb hdU) (m4 fcb hr) (m5 fcb (by rw [show r0 + (p + 1) = r0 + p + 1 by omega]; exact t3)) gsb (fun hnone S2 f2 => k1 (by show Option.bind (dt_pa _ true b mc) _ = none; rw [hb]; show Option.bind (dt_pa _ true a mb) _ = none; rw [hnone]; rfl) S2 (cf_tr (m2 fcb) f2)) (fun a2 ma ka ha Sa oa fa gsa ta => ?_)
    have ra := dt_pa_ok hD a pa.1 mb _ a2 ma ka pa (dt_bd_mo (Nat.le_trans rc1 rb1) bda) (dt_gc_mo (Nat.le_trans rc1 rb1) gca) lxa (by omega) (by omega) ha
    have sa := (dt_pa_gr hC hD a pa.1 mb _ a2 ma ka pa (dt_bd_mo (Nat.le_trans rc1 rb1) bda) (dt_gc_mo (Nat.le_trans rc1 rb1) gca) lxa (by omega) (by omega) ha).1
    have ra1 := ra.1
    have ra2 := ra.2.1
    have sta : ps = 4 → ma = 150 ∧ ct_sz a2 = ct_sz a := fun h4 => by
      subst h4
      have := dt_pa_st a pa.1 _ _ _ _ ha
      exact ⟨by rw [this.1]; exact (stb rfl).1, this.2.1⟩
    have fcba := cf_tr fcb (m1 (Nat.le_trans (Nat.sub_le _ _) (Nat.sub_le T (ct_sz c2))) fa)
    obtain ⟨n1, n2, n3, n4, n5, n6, n7⟩ := dt_pa_nd hw hbd hgc hl ra rb rc (Or.inr ⟨rfl, rfl, rfl, rfl, rfl⟩)
    have kn : ∀ (u2 : ct_T) (m kk : Nat), dt_fn (dt_dn (dt_U U) R (cu_nq Q (cu_M U)) ps) ma e a2 b2 c2 (kc + kb + ka) = some (u2, m, kk) → ∀ S2 o5, cf_W (cW_gt T) S S2 → dk_gs S2 (T - ct_sz u2) m (k + kk) → ck_t S2 44 (T - ct_sz u2) u2 → cm_At (am_XX L xs) (d + 7) 82 44 [some (.ref 37), some (.int q1), some (.int (Int32.ofNat ps)), some (.int (Int32.ofNat r0)), some (.int (Int32.ofNat (r0 + p) - 1)), o5] [] S2 K := fun u2 m kk hf => k2 u2 m kk (by
      show Option.bind (dt_pa _ true b mc) _ = _
      rw [hb]
      show Option.bind (dt_pa _ true a mb) _ = _
      rw [ha]
      exact hf)
    have kf : dt_fn (dt_dn (dt_U U) R (cu_nq Q (cu_M U)) ps) ma e a2 b2 c2 (kc + kb + ka) = none → ∀ S2, cf_W cW_go S S2 → K (.inl (some (.int 0))) S2 0 := fun hf => k1 (by
      show Option.bind (dt_pa _ true b mc) _ = _
      rw [hb]
      show Option.bind (dt_pa _ true a mb) _ = _
      rw [ha]
      exact hf)
    clear k1 k2 iha ihb ihc
    rw [show Int32.ofNat (r0 + (p + 1)) - 1 = Int32.ofNat (r0 + p) from cp_s1]
    have h7 : Sa.1 37 7 = Int32.ofNat (T - ct_sz c2 - ct_sz b2 - ct_sz a2) := gsa.1
    obtain ⟨T1, hT1⟩ : ∃ T1, T - ct_sz c2 - ct_sz b2 - ct_sz a2 = T1 + 1 := ⟨T - ct_sz c2 - ct_sz b2 - ct_sz a2 - 1, by omega⟩
    rw [hT1] at h7
    have hszn := ct_sz_nd (e := e) (a := a2) (b := b2) (c := c2)
    refine cx_82_44 _ _ _ _ _ ⟨fun h => absurd h (by rw [cp_lt (by omega) (by omega)]; omega), fun _ => ?_⟩
    rintro _ rfl
    rw [h7, cp_s1]
    rintro _ rfl
    rintro _ rfl
    have w6 : (cm_wI Sa 37 7 (Int32.ofNat T1)).1 37 7 = Int32.ofNat T1 := by rw [cp_wI1, if_pos ⟨rfl, rfl⟩]
    rw [w6]
    refine ⟨fun h => absurd h (cp_nn (by omega)), fun _ => ?_⟩
    rintro _ rfl
    have f6 : cf_W (cW_gt (T1 + 1)) Sa (cm_wI Sa 37 7 (Int32.ofNat T1)) := cf_wI (decide_eq_true (by omega))
    refine cp_20 (by decide) (by decide) (cp_r0 ?_)
    have hrow0 : cp_gr (cm_wI Sa 37 7 (Int32.ofNat T1)) 27 (Int32.ofNat (r0 + p)) = e := cp_rw (a := 27) (by decide) (m5 f6 (m5 fcba ht))
    rw [hrow0]
    have hput : cf_W (cW_gt (T1 + 1)) (cm_wI Sa 37 7 (Int32.ofNat T1)) (cp_putD (cm_wI Sa 37 7 (Int32.ofNat T1)) 44 (Int32.ofNat T1) e) := cp_putD_cf (fun b q1 q2 => decide_eq_true (by omega)) (by omega)
    have hput7 : (cp_putD (cm_wI Sa 37 7 (Int32.ofNat T1)) 44 (Int32.ofNat T1) e).1 37 7 = Int32.ofNat T1 := by
      have h := (cp_putD_cf (W := fun b j => decide (45 ≤ b ∧ b ≤ 49 ∧ j = T1)) (S := cm_wI Sa 37 7 (Int32.ofNat T1)) (a := 44) (i := T1) (e := e) (fun b q1 q2 => decide_eq_true (by omega)) (by omega) 37 7 (decide_eq_false (by omega))).1
      rw [h, w6]
    have hputr : cp_row (cp_putD (cm_wI Sa 37 7 (Int32.ofNat T1)) 44 (Int32.ofNat T1) e) 44 T1 = e := by
      rw [cp_putD_row (by rw [dk_cap.2.1]; omega) (by omega), if_pos rfl]
    generalize hS7 : cp_putD (cm_wI Sa 37 7 (Int32.ofNat T1)) 44 (Int32.ofNat T1) e = S7 at hput hput7 hputr ⊢
    rintro _ rfl
    rw [hput7]
    have f7 := cf_tr f6 hput
    have eq1 : T1 + 1 + ct_sz a2 = T - ct_sz c2 - ct_sz b2 := by omega
    have eq2 : T1 + 1 + ct_sz a2 + ct_sz b2 = T - ct_sz c2 := by omega
    have ta7 : ck_t S7 44 (T1 + 1) a2 := m7 f7 (Nat.le_refl _) (by rw [← hT1]; exact ta)
    have tb7 : ck_t S7 44 (T1 + 1 + ct_sz a2) b2 := by
      rw [eq1]
      exact m7 f7 (by omega) (m7 fa (Nat.le_refl _) tb)
    have tc7 : ck_t S7 44 (T1 + 1 + ct_sz a2 + ct_sz b2) c2 := by
      rw [eq2]
      exact m7 f7 (by omega) (m7 fa (by omega) (m7 fb (Nat.le_refl _) tc))
    refine cp_22 (a := 44) (by decide) n3.1 hputr (by rw [dk_cap.2.1]; omega) ta7 tb7 tc7 (cp_r0 ?_)
    have f8w : cf_W (fun b j => decide (b = 49 ∧ j = T1)) S7 (cm_wI S7 49 T1 (Int32.ofNat (ct_sz (ct_nd e a2 b2 c2)))) := cf_wI (decide_eq_true (by omega))
    have t8 : ck_t (cm_wI S7 49 T1 (Int32.ofNat (ct_sz (ct_nd e a2 b2 c2)))) 44 T1 (ct_nd e a2 b2 c2) := by
      rw [ck_t_nd]
      refine ⟨?_, by rw [cp_wI1, if_pos ⟨rfl, rfl⟩], by rw [dk_cap.2.1]; omega, ck_t_cf f8w (fun b j q1 q2 _ _ => decide_eq_false (by omega)) ta7, ck_t_cf f8w (fun b j q1 q2 _ _ => decide_eq_false (by omega)) tb7, ck_t_cf f8w (fun b j q1 q2 _ _ => decide_eq_false (by omega)) tc7⟩
      rw [← hputr]
      simp [cp_row, cp_wI1, cp_wI2]
    have w8 : (cm_wI S7 49 T1 (Int32.ofNat (ct_sz (ct_nd e a2 b2 c2)))).1 37 7 = Int32.ofNat T1 := by rw [(f8w 37 7 (decide_eq_false (by omega))).1]; exact hput7
    have f8 : cf_W (cW_gt (T1 + 1)) S7 (cm_wI S7 49 T1 (Int32.ofNat (ct_sz (ct_nd e a2 b2 c2)))) := cf_mono f8w (fun b j h => decide_eq_true (by have h := of_decide_eq_true h; omega))
    generalize hS8 : cm_wI S7 (44 + 5) T1 (Int32.ofNat (ct_sz (ct_nd e a2 b2 c2))) = S8 at f8w t8 w8 f8 ⊢
    refine cx_49_0 ?_
    rintro _ rfl
    refine cp_r0 ?_
    have f9w : cf_W (fun b j => decide (b = 50 ∧ j = 5)) S8 (cm_wI S8 50 5 0) := cf_wI (decide_eq_true (by omega))
    have t9 := ck_t_cf f9w (fun b j q1 q2 _ _ => decide_eq_false (by omega)) t8
    have w9 : (cm_wI S8 50 5 0).1 37 7 = Int32.ofNat T1 := by rw [(f9w 37 7 (decide_eq_false (by omega))).1]; exact w8
    have f9 : cf_W (cW_gt (T1 + 1)) S8 (cm_wI S8 50 5 0) := cf_mono f9w (fun b j h => decide_eq_true (by have h := of_decide_eq_true h; omega))
    have v9 : (cm_wI S8 50 5 0).1 50 5 = 0 := by rw [cp_wI1, if_pos ⟨rfl, rfl⟩]
    generalize hS9 : cm_wI S8 50 5 0 = S9 at f9w t9 w9 f9 v9 ⊢
    have f79 := cf_tr f7 (cf_tr f8 f9)
    have u9 : S9.1 50 6 = Int32.ofNat ma ∧ S9.1 37 8 = Int32.ofNat (k + kc + kb + ka) := by
      constructor
      · rw [(f9w 50 6 (decide_eq_false (by omega))).1, (f8w 50 6 (decide_eq_false (by omega))).1, ← hS7]
        rw [(cp_putD_cf (W := fun b j => decide (45 ≤ b ∧ b ≤ 49 ∧ j = T1)) (S := cm_wI Sa 37 7 (Int32.ofNat T1)) (a := 44) (i := T1) (e := e) (fun b q1 q2 => decide_eq_true (by omega)) (by omega) 50 6 (decide_eq_false (by omega))).1, cp_wI1, if_neg (by omega)]
        exact gsa.2.1
      · rw [(f9w 37 8 (decide_eq_false (by omega))).1, (f8w 37 8 (decide_eq_false (by omega))).1, ← hS7]
        rw [(cp_putD_cf (W := fun b j => decide (45 ≤ b ∧ b ≤ 49 ∧ j = T1)) (S := cm_wI Sa 37 7 (Int32.ofNat T1)) (a := 44) (i := T1) (e := e) (fun b q1 q2 => decide_eq_true (by omega)) (by omega) 37 8 (decide_eq_false (by omega))).1, cp_wI1, if_neg (by omega)]
        exact gsa.2.2
    have fS : cf_W (cW_gt T) S S9 := cf_tr fcba (m1 (by omega) f79)
    have hd9 : dk_d S9 [] ma := ⟨v9, by rw [List.length_nil]; omega, fun _ => ⟨ck_f_nil, u9.1⟩⟩
    have dU9 := m3 fS hdU
    have r9 := m4 fS hr
    -- what every pass does
    have key : ∀ (y : Nat) (l : List (Option Value)) (K2 : cm_K), (dk_st (dt_dn (dt_U U) R (cu_nq Q (cu_M U)) ps ma e a2 b2 c2) S9 K2 → cm_At (am_XX L xs) (d + 6) y 0 l [] S9 K2) → 
        (∀ S2, K2 (.inl (some (.int 0))) S2 0 ↔ (∀ x24, x24 = S2.1 37 7 → cm_At (am_XX L xs) (d + 6) 12 0 [some (.ref 44), some (.int x24)] [] S2 (fun r S25 k26 => cm_r1 (fun x28 => (150 < x28 → (True ∨ (0 : Int32) = 1) ∧ (cm_sh (cm_sh K 0) k26) (.inl (some (.int 0))) S25 0) ∧ (¬ 150 < x28 → cm_At (am_XX L xs) (d + 7) 82 44 [some (.ref 37), some (.int q1), some (.int (Int32.ofNat ps)), some (.int (Int32.ofNat r0)), some (.int (Int32.ofNat (r0 + p) + (-1))), some (.int 0)] [] S25 (cm_sh (cm_sh K 0) k26))) (fun e27 => (cm_sh K 0) (.inr e27) S25 k26) r))) →
        (∀ S2, K2 (.inl (some (.int 1))) S2 0 ↔ (∀ x29, x29 = S2.1 37 8 → ∀ S30, S30 = cm_wI S2 37 8 (x29 + 1) → cm_At (am_XX L xs) (d + 6) 48 0 [some (.ref 50)] [] S30 (fun r S31 k32 => cm_r1 (fun x34 => (x34 = 0 → cm_At (am_XX L xs) (d + 6) 84 0 [some (.ref 37), none] [] S31 (fun r S35 k36 => cm_r0 (∀ x38, x38 = S35.1 37 7 → cm_At (am_XX L xs) (d + 6) 12 0 [some (.ref 44), some (.int x38)] [] S35 (fun r S39 k40 => cm_r1 (fun x42 => (150 < x42 → (True ∨ (0 : Int32) = 1) ∧ (cm_sh (cm_sh (cm_sh (cm_sh K 0) k32) k36) k40) (.inl (some (.int 0))) S39 0) ∧ (¬ 150 < x42 → cm_At (am_XX L xs) (d + 7) 82 44 [some (.ref 37), some (.int q1), some (.int (Int32.ofNat ps)), some (.int (Int32.ofNat r0)), some (.int (Int32.ofNat (r0 + p) + (-1))), some (.int 1)] [] S39 (cm_sh (cm_sh (cm_sh (cm_sh K 0) k32) k36) k40))) (fun e41 => (cm_sh (cm_sh (cm_sh K 0) k32) k36) (.inr e41) S39 k40) r)) (fun e37 => (cm_sh (cm_sh K 0) k32) (.inr e37) S35 k36) r)) ∧ (¬ x34 = 0 → (True ∨ (0 : Int32) = 1) ∧ (cm_sh (cm_sh K 0) k32) (.inl (some (.int 0))) S31 0)) (fun e33 => (cm_sh K 0) (.inr e33) S31 k32) r))) →
        cm_At (am_XX L xs) (d + 6) y 0 l [] S9 K2 := by
      intro y l K2 hgo h0 h1
      refine hgo ?_
      cases hdn : dt_dn (dt_U U) R (cu_nq Q (cu_M U)) ps ma e a2 b2 c2 with
      | none =>
        refine (h0 S9).mpr ?_
        rintro _ rfl
        rw [w9]
        refine cp_12 (by decide) (cp_r1 ?_)
        rw [dk_z t9 n3.1 dt_ndl, show (150 : Int32) = Int32.ofNat 150 from rfl, cp_lt (by omega) (by omega)]
        unfold dt_fn at kn kf
        rw [hdn] at kn kf
        refine ⟨fun hbig => ⟨Or.inl trivial, ?_⟩, fun hok => ?_⟩
        · dsimp only at kf
          rw [if_neg (by omega)] at kf
          exact kf rfl S9 (m2 fS)
        · dsimp only at kn
          rw [if_pos (by omega)] at kn
          rw [cp_pm1]
          have eT : T1 = T - ct_sz (ct_nd e a2 b2 c2) := by omega
          refine cp_shz (cp_shz (kn _ _ _ rfl S9 _ fS ⟨by rw [← eT]; exact w9, u9.1, ?_⟩ (by rw [← eT]; exact t9)))
          rw [u9.2, show k + (kc + kb + ka) = k + kc + kb + ka by omega]
      | some rr =>
        obtain ⟨t2, m⟩ := rr
        intro S2 d2 c2'
        refine (h1 S2).mpr ?_
        rintro _ rfl
        rintro _ rfl
        have hdok := hD ma m G e a2 b2 c2 t2 (by omega) (by omega) n3 n6 n7 n5 ra.2.2.2.2.2.2 rb.2.2.2.2.2.2 hdn
        have hwt2 := hdok.2.2.1
        have hlt2 := hdok.2.2.2.1
        have hst2 := ct_sz_ne hwt2.1 hlt2
        rw [(c2' 37 8 (decide_eq_false (by omega))).1, u9.2, show Int32.ofNat (k + kc + kb + ka) + 1 = Int32.ofNat (k + kc + kb + ka + 1) from cp_ad (b := 1)]
        have f10w : cf_W (fun b j => decide (b = 37 ∧ j = 8)) S2 (cm_wI S2 37 8 (Int32.ofNat (k + kc + kb + ka + 1))) := cf_wI (decide_eq_true (by omega))
        have v10 : (cm_wI S2 37 8 (Int32.ofNat (k + kc + kb + ka + 1))).1 37 8 = Int32.ofNat (k + kc + kb + ka + 1) := by rw [cp_wI1, if_pos ⟨rfl, rfl⟩]
        generalize hS10 : cm_wI S2 37 8 (Int32.ofNat (k + kc + kb + ka + 1)) = S10 at f10w v10 ⊢
        have d10 : dk_d S10 (ct_fl t2) m := by
          refine ⟨by rw [(f10w 50 5 (decide_eq_false (by omega))).1]; exact d2.1, d2.2.1, fun h => ⟨ck_f_cf f10w (fun b j q1 q2 _ _ => decide_eq_false (by omega)) (d2.2.2 h).1, ?_⟩⟩
          rw [(f10w 50 6 (decide_eq_false (by omega))).1]
          exact (d2.2.2 h).2
        have f10 : cf_W (cW_gt (T1 + 1)) S9 S10 := cf_tr (cf_mono c2' (fun b j h => decide_eq_true (by have h := of_decide_eq_true h; omega))) (cf_mono f10w (fun b j h => decide_eq_true (by have h := of_decide_eq_true h; omega)))
        have w10 : S10.1 37 7 = Int32.ofNat T1 := by rw [(f10w 37 7 (decide_eq_false (by omega))).1, (c2' 37 7 (decide_eq_false (by omega))).1]; exact w9
        have t10 := ck_t_cf f10w (fun b j q1 q2 _ _ => decide_eq_false (by omega)) (dk_fr (Or.inl rfl) c2' t9)
        have fS10 := cf_tr fS (m1 (by omega) f10)
        refine cp_48 (by rw [d10.1, ct_fl_len]) (by have := d10.2.1; rw [ct_fl_len] at this; exact this) (cp_r1 ?_)
        have hgr : ct_sz t2 ≤ 150 → ct_sz t2 ≤ T := fun h150 => by
          have hpaq : dt_pa (dt_dn (dt_U U) R (cu_nq Q (cu_M U)) ps) true (ct_nd e a b c) n = some (t2, m, kc + kb + ka + 1) := by
            rw [dt_pa_t, hc]
            show Option.bind (dt_pa _ true b mc) _ = _
            rw [hb]
            show Option.bind (dt_pa _ true a mb) _ = _
            rw [ha]
            show dt_fn _ ma e a2 b2 c2 (kc + kb + ka) = _
            unfold dt_fn
            rw [hdn]
            dsimp only
            rw [if_pos h150]
          have := (dt_pa_gr hC hD (ct_nd e a b c) hwf n G t2 m _ hw hbd hgc hl hn (by omega) hpaq).1
          omega
        unfold dt_fn at kn kf
        rw [hdn] at kn kf
        dsimp only at kn kf
        by_cases h150 : ct_sz t2 ≤ 150
        · rw [if_neg (by omega)]
          rw [if_pos h150] at kn
          refine ⟨fun _ => ?_, fun h => absurd rfl h⟩
          refine cp_84 (T := T) w10 t10 n3.1 dt_ndl (by omega) hT2 d10 hwt2.1 hlt2 h150 (hgr h150) (fun S11 c11 w11 t11 => cp_r0 ?_)
          rintro _ rfl
          rw [w11]
          refine cp_12 (by decide) (cp_r1 ?_)
          rw [dk_z t11 hwt2.1 hlt2, show (150 : Int32) = Int32.ofNat 150 from rfl, cp_lt (by omega) (by omega)]
          refine ⟨fun h => absurd h (by omega), fun _ => ?_⟩
          rw [cp_pm1]
          refine cp_shz (cp_shz (cp_shz (cp_shz (kn _ _ _ rfl S11 _ (cf_tr fS10 (cf_mono c11 (fun b j h => decide_eq_true (by have h := of_decide_eq_true h; omega)))) ⟨w11, ?_, ?_⟩ t11))))
          · rw [(c11 50 6 (decide_eq_false (by omega))).1]
            exact (d10.2.2 (by rw [ct_fl_len]; exact h150)).2
          · rw [(c11 37 8 (decide_eq_false (by omega))).1, v10, show k + (kc + kb + ka + 1) = k + kc + kb + ka + 1 by omega]
        · rw [if_pos (by omega)]
          rw [if_neg h150] at kf
          exact ⟨fun h => absurd h (by decide), fun _ => ⟨Or.inl trivial, kf rfl S10 (m2 fS10)⟩⟩
    simp only [dk_sh0]
    have hp0 : Int32.ofNat ps = 0 ↔ ps = 0 := by rw [show (0 : Int32) = Int32.ofNat 0 from rfl, cp_inj (by omega) (by omega)]
    rw [hp0]
    refine ⟨fun h0 => ?_, fun h0 => ?_⟩
    · rintro _ rfl
      rw [w9]
      refine key _ _ _ (fun hk => ?_) (fun S2 => ?_) (fun S2 => ?_)
      · subst h0
        refine cp_86 hU dU9 hd9 (by omega) (by omega) t9 n3 n6 ra.2.2.2.2.2.2 rb.2.2.2.2.2.2 rc.2.2.2.2.2.2 ?_
        exact hk
      · exact ⟨fun h => h.1 rfl, fun h => ⟨fun _ => h, fun hc => absurd rfl hc⟩⟩
      · exact ⟨fun h => h.2 (by decide), fun h => ⟨fun hc => absurd hc (by decide), fun _ => h⟩⟩
    · rintro _ rfl
      rw [w9, cp_sb (by omega), show r0 + p - r0 = p by omega]
      refine key _ _ _ (fun hk => ?_) (fun S2 => ?_) (fun S2 => ?_)
      · refine cp_85 (C := dt_U U) (nq := cu_nq Q (cu_M U)) h0 hps8 hR r9 hd9 t9 n3 (by omega) (fun h4 h6 => ?_) hk
        obtain ⟨la, lb, lc⟩ := ct_q2 hwf (Or.inr (Or.inl h6))
        have sb0 := ct_sz_ne pb.1 lb
        have hcx : 0 < dt_ct e.2.2.1 (ct_nd e a b c) := by
          rw [dt_ct_nd]
          have : 0 < dt_oc e.2.2.1 e := List.count_pos_iff.mpr (ct_ob_v (Or.inr (Or.inl h6)))
          omega
        have hxb := hbd.2 _ hcx
        rw [(hst h4).1] at hxb
        refine ⟨hxb, by rw [(sta h4).2]; omega, cu_nq Q (cu_M U) b, ?_, ?_⟩
        · rw [(sta h4).2]
          exact ck_sa_sb pb.1 lb (m6 fS pb.1 (hstn h4).2.2.1)
        · show (cu_n2 Q (cu_M U) b _).1 = (cu_n2 Q (cu_M U) b2 _).1
          rw [(stb h4).2.2]
      · exact ⟨fun h => h.1 rfl, fun h => ⟨fun _ => h, fun hc => absurd rfl hc⟩⟩
      · exact ⟨fun h => h.2 (by decide), fun h => ⟨fun hc => absurd hc (by decide), fun _ => h⟩⟩)
end CPa07
