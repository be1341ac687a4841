/-! ## a06 Passes of the class: forced lets, rules, all of them -/
theorem dk_dv {m : Nat} (h : m < 2048) : Int32.ofNat m / 8 = Int32.ofNat (m / 8) ∧ Int32.ofNat m - Int32.ofNat m / 8 * 8 = Int32.ofNat (m % 8) := by
  have h2 : ∀ v : Fin 2048, Int32.ofNat v.val / 8 = Int32.ofNat (v.val / 8) ∧ Int32.ofNat v.val - Int32.ofNat v.val / 8 * 8 = Int32.ofNat (v.val % 8) := by decide +kernel
  exact h2 ⟨m, h⟩
/-- a rule's number -/
theorem dk_rw {q : Int32 × Int32 × Int32 × Int32} (h : ct_rok q) : ∃ a b c r : Nat, q.1 = Int32.ofNat a ∧ q.2.1 = Int32.ofNat b ∧ q.2.2.1 = Int32.ofNat c ∧ q.2.2.2 = Int32.ofNat r ∧ a < 3 ∧ b < 8 ∧ c < 8 ∧ r < 8 ∧ ((q.1 * 8 + q.2.1) * 8 + q.2.2.1) * 8 + q.2.2.2 = Int32.ofNat (((a * 8 + b) * 8 + c) * 8 + r) := by
  obtain ⟨h1, h2, h3, h4⟩ := h
  obtain ⟨a, ha, ha2, _⟩ := cp_of h1.1
  obtain ⟨b, hb, hb2, _⟩ := cp_of h2.1
  obtain ⟨c, hc, hc2, _⟩ := cp_of h3.1
  obtain ⟨r, hr, hr2, _⟩ := cp_of h4.1
  refine ⟨a, b, c, r, ha, hb, hc, hr, by omega, by omega, by omega, by omega, ?_⟩
  rw [ha, hb, hc, hr, show (8 : Int32) = Int32.ofNat 8 from rfl, cp_ml, cp_ad, cp_ml, cp_ad, cp_ml, cp_ad]
theorem dk_i64 {m : Nat} (h : m < 8) : (Int32.ofNat m).toInt64 = Int64.ofNat m ∧ (Int64.ofNat m).toInt32 = Int32.ofNat m := by
  have h2 : ∀ v : Fin 8, (Int32.ofNat v.val).toInt64 = Int64.ofNat v.val ∧ (Int64.ofNat v.val).toInt32 = Int32.ofNat v.val := by decide +kernel
  exact h2 ⟨m, h⟩
theorem dk_i64j {m j : Nat} (h : m < 8) (hj : j < 8) : (Int64.ofNat m = Int64.ofNat j) ↔ m = j := by
  have h2 : ∀ v w : Fin 8, (Int64.ofNat v.val = Int64.ofNat w.val) ↔ v.val = w.val := by decide +kernel
  exact h2 ⟨m, h⟩ ⟨j, hj⟩
section CPa06
variable {L : Nat} {xs : Nat → Int32} {d : Nat} {S : cm_S} {K : cm_K} {n p : Nat} {e : ct_D} {a b c : ct_T}
/-- a LET whose variable is needed in its body -/
theorem cp_99 {nq : ct_T → Nat → Bool} {pl : Nat} (hd : dk_d S [] n) (ht : ck_t S 44 p (ct_nd e a b c)) (hw : dt_w (ct_nd e a b c)) (hsz : ct_sz (ct_nd e a b c) < 50000)
    (hf : e.1 = 6 → (0 ≤ e.2.2.1.toInt ∧ e.2.2.1.toInt < 150) ∧ pl + 1 + ct_sz a < 150 ∧ ∃ f, ck_sb S (pl + 1 + ct_sz a) f ∧ f e.2.2.1.toNatClampNeg = nq b e.2.2.1.toNatClampNeg) (k : dk_st (dt_sr nq n e a b) S K) :
    cm_At (am_XX L xs) (d + 5) 99 0 [some (.ref 37), some (.int (Int32.ofNat p)), some (.int (Int32.ofNat pl)), none, none] [] S K := by
  obtain ⟨p1, p2, pa, pb, pc⟩ := dt_w_nd hw
  have hszn := ct_sz_nd (e := e) (a := a) (b := b) (c := c)
  unfold dt_sr at k
  have gk := dk_k ht hw.1 dt_ndl
  rw [show dt_k (ct_nd e a b c) = e.1 from rfl] at gk
  have ht2 := ht
  rw [ck_t_nd] at ht2
  obtain ⟨t0, t1, t2, t3, t4, t5⟩ := ht2
  refine cx_99_0 _ _ ?_
  refine cp_14 (by decide) (cp_r1 ?_)
  rw [dk_1]
  refine cp_12 (by decide) (cp_r1 ?_)
  refine cp_8 (by decide) (cp_r1 ?_)
  rw [gk]
  refine ⟨fun h6 => ?_, fun h6 => ?_⟩
  rotate_left
  · rw [if_neg (fun hc => h6 hc.1)] at k
    exact ⟨Or.inl rfl, k⟩
  obtain ⟨la, lb, lc⟩ := ct_q2 hw.1 (Or.inr (Or.inl h6))
  obtain ⟨hv, hpl, f, hsb, hfe⟩ := hf h6
  rw [dk_z t3 pa.1 la]
  refine cp_9 (by decide) (cp_r1 ?_)
  rw [dk_v ht hw.1 dt_ndl, show (dt_e (ct_nd e a b c)).2.2.1 = e.2.2.1 from rfl]
  obtain ⟨v, hve, hv2, hv3⟩ := cp_of hv.1
  rw [hve, cp_cl (by omega)] at hfe
  rw [hve, cp_cl (by omega)] at k
  rw [hve, show (1 : Int32) = Int32.ofNat 1 from rfl, cp_ad, cp_ad]
  refine cp_40 hpl (by omega) hsb (cp_r1 ?_)
  rw [hfe]
  by_cases hq : nq b v = true
  case neg =>
    rw [if_neg (fun hc => hq hc.2)] at k
    rw [if_neg hq]
    exact ⟨fun _ => ⟨Or.inl rfl, k⟩, fun h => absurd rfl h⟩
  rw [if_pos ⟨h6, hq⟩] at k
  rw [if_pos hq]
  refine ⟨fun h => absurd h (by decide), fun _ => ?_⟩
  refine cp_9 (by decide) (cp_r1 ?_)
  rw [dk_v ht hw.1 dt_ndl, show (dt_e (ct_nd e a b c)).2.2.1 = e.2.2.1 from rfl, hve]
  refine cp_50 hd (by rw [List.length_nil]; omega) (fun S1 d1 c1 => cp_r0 ?_)
  refine cp_52 (Or.inl rfl) d1 pa.1 la (dk_fr (Or.inl rfl) c1 t3) (by simp only [List.length_append, List.length_cons, List.length_nil]; omega) (fun S2 d2 c2 => cp_r0 ?_)
  have c12 := cf_tr c1 c2
  refine cp_15 (by decide) (cp_r1 ?_)
  rw [cp_2nd (a := 44) (by decide) (dk_fr (Or.inl rfl) c12 ht) hw.1 la]
  refine cp_52 (Or.inl rfl) d2 pb.1 lb (dk_fr (Or.inl rfl) c12 t4) (by simp only [List.length_append, List.length_cons, List.length_nil, ct_fl_len]; omega) (fun S3 d3 c3 => cp_r0 ⟨Or.inr rfl, ?_⟩)
  refine k S3 ?_ (cf_tr c12 c3)
  have e1 : ct_fl (ct_nd ((8 : Int32), (0 : Int64), Int32.ofNat v, (-1 : Int32)) a b .leaf) = [] ++ [((8 : Int32), (0 : Int64), Int32.ofNat v, (-1 : Int32))] ++ ct_fl a ++ ct_fl b := by
    rw [ct_fl_nd]
    show _ :: (ct_fl a ++ (ct_fl b ++ [])) = _
    simp
  show dk_d S3 (ct_fl (ct_nd ((8 : Int32), (0 : Int64), Int32.ofNat v, (-1 : Int32)) a b .leaf)) n
  rw [e1]
  exact d3
/-- the rules one by one -/
theorem cp_100l {R : List (Int32 × Int32 × Int32 × Int32)} {ph fg gg : Nat} {f : ct_D} {x y z : ct_T} {q3 q5 : Int32} {q : Nat} (hph : ph < 3) (hfg : fg < 8) (hgg : gg < 8) (hR : ∀ q, q ∈ R → ct_rok q) (hr : ck_r S R) (hd : dk_d S [] n) (ht : ck_t S 44 p (ct_nd e a b c)) (hw : dt_w (ct_nd e a b c)) (tq : ck_t S 44 q (ct_nd f x y z)) (wq : dt_w (ct_nd f x y z)) (lx : ¬ x = .leaf) (ly : ¬ y = .leaf) (hsz : ct_sz (ct_nd f x y z) < 50000) :
    ∀ (r : List (Int32 × Int32 × Int32 × Int32)) (i : Nat) (K : cm_K), (∀ j u, r[j]? = some u → R[i + j]? = some u) → i + r.length = R.length →
    dk_st (match dt_rf (Int32.ofNat ph) (Int64.ofNat fg) (Int64.ofNat gg) r with
      | some r => some (ct_nd e (ct_nd (3, r.toInt64, -1, -1) .leaf .leaf .leaf) y .leaf, n)
      | none => none) S K →
    cm_At (am_XX L xs) (d + 5) 100 112 [some (.ref 37), some (.int (Int32.ofNat p)), some (.int (Int32.ofNat ph)), some (.int q3), some (.int (Int32.ofNat q)), some (.int q5), some (.int (Int32.ofNat ((ph * 8 + fg) * 8 + gg))), some (.int (Int32.ofNat i))] [] S K
  | [], i, K, hi, hl, k => by
    rw [List.length_nil] at hl
    have h10 := hr.1
    refine cx_100_112 _ _ _ _ _ _ _ ?_
    rintro _ rfl
    rw [hr.2.1, cp_lt (by omega) (by omega)]
    exact ⟨fun h => by omega, fun _ => ⟨Or.inl rfl, k⟩⟩
  | u :: r, i, K, hi, hl, k => by
    rw [List.length_cons] at hl
    have h10 := hr.1
    have hu : R[i]? = some u := hi 0 u rfl
    have hword := hr.2.2 i u hu
    have hok := hR u (List.mem_of_getElem? hu)
    obtain ⟨ua, ub, uc, ur, e1, e2, e3, e4, l1, l2, l3, l4, hword2⟩ := dk_rw hok
    rw [hword2] at hword
    have hdv := dk_dv (m := ((ua * 8 + ub) * 8 + uc) * 8 + ur) (by omega)
    have hrl : cm_rl 56 = 10 := by decide +kernel
    have hrd : ∀ {S2 : cm_S}, S2.1 56 i = S.1 56 i → cp_g (cm_rl 56) (S2.1 56) 0 (Int32.ofNat i) = Int32.ofNat (((ua * 8 + ub) * 8 + uc) * 8 + ur) := fun {S2} h => by
      rw [cp_g_at (by rw [hrl]; omega) (by omega), h, hword]
    refine cx_100_112 _ _ _ _ _ _ _ ?_
    rintro _ rfl
    rw [hr.2.1, cp_lt (by omega) (by omega)]
    refine ⟨fun _ => ?_, fun h => absurd (by omega) h⟩
    refine cp_166 (by decide) (cp_r1 ?_)
    rw [hrd rfl]
    refine ⟨by decide, ?_⟩
    rw [hdv.1, cp_inj (by omega) (by omega)]
    have hkey : (((ua * 8 + ub) * 8 + uc) * 8 + ur) / 8 = (ph * 8 + fg) * 8 + gg ↔ (u.1 = Int32.ofNat ph ∧ u.2.1.toInt64 = Int64.ofNat fg ∧ u.2.2.1.toInt64 = Int64.ofNat gg) := by
      rw [e1, e2, e3, cp_inj (by omega) (by omega), (dk_i64 l2).1, (dk_i64 l3).1, dk_i64j l2 hfg, dk_i64j l3 hgg]
      omega
    rw [hkey]
    unfold dt_rf at k
    refine ⟨fun hm => ?_, fun hm => ?_⟩
    · rw [if_pos hm] at k
      refine cp_51 (by decide) hd (by rw [List.length_nil]; omega) (fun S1 d1 c1 => cp_r0 ?_)
      rw [dk_gr (c := 44) (by decide) ht hw.1 dt_ndl, show dt_e (ct_nd e a b c) = e from rfl] at d1
      refine cp_166 (by decide) (cp_r1 ?_)
      rw [hrd (c1 56 i (decide_eq_false (by omega))).1]
      refine ⟨by decide, ?_⟩
      rw [show (8 : Int32) = Int32.ofNat 8 from rfl] at *
      rw [hdv.2]
      refine cp_50 d1 (by simp only [List.length_append, List.length_cons, List.length_nil]; omega) (fun S2 d2 c2 => cp_r0 ?_)
      have c12 := cf_tr c1 c2
      refine cp_15 (by decide) (cp_r1 ?_)
      rw [cp_2nd (a := 44) (by decide) (dk_fr (Or.inl rfl) c12 tq) wq.1 lx]
      obtain ⟨_, _, px, py, pz⟩ := dt_w_nd wq
      have tq2 := tq
      rw [ck_t_nd] at tq2
      obtain ⟨u0, u1, u2, u3, u4, u5⟩ := tq2
      have hszn := ct_sz_nd (e := f) (a := x) (b := y) (c := z)
      refine cp_52 (Or.inl rfl) d2 py.1 ly (dk_fr (Or.inl rfl) c12 u4) (by simp only [List.length_append, List.length_cons, List.length_nil]; omega) (fun S3 d3 c3 => cp_r0 ⟨Or.inr rfl, ?_⟩)
      refine k S3 ?_ (cf_tr c12 c3)
      have hrr : (((ua * 8 + ub) * 8 + uc) * 8 + ur) % 8 = ur := by omega
      rw [hrr, ← e4] at d3
      have e9 : ct_fl (ct_nd e (ct_nd ((3 : Int32), u.2.2.2.toInt64, (-1 : Int32), (-1 : Int32)) .leaf .leaf .leaf) y .leaf) = [] ++ [e] ++ [((3 : Int32), u.2.2.2.toInt64, (-1 : Int32), (-1 : Int32))] ++ ct_fl y := by
        rw [ct_fl_nd, ct_fl_nd]
        show e :: ((_ :: ([] ++ ([] ++ []))) ++ (ct_fl y ++ [])) = _
        simp
      show dk_d S3 (ct_fl (ct_nd e (ct_nd ((3 : Int32), u.2.2.2.toInt64, (-1 : Int32), (-1 : Int32)) .leaf .leaf .leaf) y .leaf)) n
      rw [e9]
      exact d3
    · rw [if_neg hm] at k
      simp only [dk_sh0]
      rw [show (1 : Int32) = Int32.ofNat 1 from rfl, cp_ad]
      refine cp_100l hph hfg hgg hR hr hd ht hw tq wq lx ly hsz r (i + 1) K (fun j w hj => ?_) (by omega) k
      have := hi (j + 1) w hj
      rw [show i + 1 + j = i + (j + 1) by omega]
      exact this
/-- a rule used -/
theorem cp_100 {R : List (Int32 × Int32 × Int32 × Int32)} {ph : Nat} (hph : ph < 3) (hR : ∀ q, q ∈ R → ct_rok q) (hr : ck_r S R) (hd : dk_d S [] n) (ht : ck_t S 44 p (ct_nd e a b c)) (hw : dt_w (ct_nd e a b c)) (hsz : ct_sz (ct_nd e a b c) < 50000) (k : dk_st (dt_ru (Int32.ofNat ph) R n e a b) S K) :
    cm_At (am_XX L xs) (d + 5) 100 0 [some (.ref 37), some (.int (Int32.ofNat p)), some (.int (Int32.ofNat ph)), none, none, none, none, none] [] S K := by
  obtain ⟨p1, p2, pa, pb, pc⟩ := dt_w_nd hw
  have hszn := ct_sz_nd (e := e) (a := a) (b := b) (c := c)
  unfold dt_ru at k
  have gk := dk_k ht hw.1 dt_ndl
  rw [show dt_k (ct_nd e a b c) = e.1 from rfl] at gk
  have ht2 := ht
  rw [ck_t_nd] at ht2
  obtain ⟨t0, t1, t2, t3, t4, t5⟩ := ht2
  refine cx_100_0 _ _ ?_
  refine cp_14 (by decide) (cp_r1 ?_)
  rw [dk_1]
  refine cp_15 (by decide) (cp_r1 ?_)
  refine cp_14 (by decide) (cp_r1 ?_)
  refine cp_8 (by decide) (cp_r1 ?_)
  rw [gk]
  refine ⟨fun h5 => ?_, fun h5 => ?_⟩
  rotate_left
  · rw [if_neg (fun hc => h5 hc.1)] at k
    exact ⟨Or.inl rfl, k⟩
  obtain ⟨la, lb, lc⟩ := ct_q2 hw.1 (Or.inl h5)
  rw [cp_2nd (a := 44) (by decide) ht hw.1 la, dk_1]
  refine cp_8 (by decide) (cp_r1 ?_)
  rw [dk_k t3 pa.1 la]
  refine ⟨fun h3 => ?_, fun h3 => ?_⟩
  rotate_left
  · rw [if_neg (fun hc => h3 hc.2.1)] at k
    exact ⟨Or.inl rfl, k⟩
  refine cp_8 (by decide) (cp_r1 ?_)
  rw [dk_k t4 pb.1 lb]
  refine ⟨fun h5b => ?_, fun h5b => ?_⟩
  rotate_left
  · rw [if_neg (fun hc => h5b hc.2.2.1)] at k
    exact ⟨Or.inl rfl, k⟩
  obtain ⟨f, x, y, z, rfl⟩ := ct_cs pb.1 lb
  have h5b' : f.1 = 5 := h5b
  obtain ⟨lx, ly, lz⟩ := ct_q2 pb.1 (Or.inl h5b')
  obtain ⟨q1, q2, px, py, pz⟩ := dt_w_nd pb
  have hszb := ct_sz_nd (e := f) (a := x) (b := y) (c := z)
  have t4' := t4
  rw [ck_t_nd] at t4'
  obtain ⟨u0, u1, u2, u3, u4, u5⟩ := t4'
  refine cp_8 (by decide) (cp_r1 ?_)
  rw [dk_k u3 px.1 lx]
  refine ⟨fun h3b => ?_, fun h3b => ?_⟩
  rotate_left
  · rw [if_neg (fun hc => h3b hc.2.2.2)] at k
    exact ⟨Or.inl rfl, k⟩
  rw [if_pos ⟨h5, h3, h5b, h3b⟩] at k
  refine cp_11 (by decide) (cp_r2 ?_)
  rw [dk_n t3 pa.1 la]
  refine cp_11 (by decide) (cp_r2 ?_)
  rw [dk_n u3 px.1 lx]
  have num : ∀ {t : ct_T}, dt_w t → ¬ t = .leaf → dt_k t = 3 → ∃ g, g < 8 ∧ (dt_e t).2.1 = Int64.ofNat g := fun {t} wt lt hk => by
    have h5 := wt.2.2
    rw [dt_nd wt.1 lt] at h5
    have h6 := (ct_nus_nd h5).1.1 hk
    refine ⟨(dt_e t).2.1.toInt.toNat, by omega, ?_⟩
    rw [← Int64.toInt_inj, Int64.toInt_ofNat_of_lt (by omega)]
    omega
  obtain ⟨fg, hfg, hfe⟩ := num pa la h3
  obtain ⟨gg, hgg, hge⟩ := num px lx h3b
  change dk_st (match dt_rf (Int32.ofNat ph) (dt_e a).2.1 (dt_e x).2.1 R with
      | some r => some (ct_nd e (ct_nd (3, r.toInt64, -1, -1) .leaf .leaf .leaf) y .leaf, n)
      | none => none) S K at k
  rw [hfe, hge] at k
  rw [hfe, hge, (dk_i64 hfg).2, (dk_i64 hgg).2]
  refine cx_80_0 _ _ _ (cp_r1 ?_)
  rw [show (8 : Int32) = Int32.ofNat 8 from rfl, cp_ml, cp_ad, cp_ml, cp_ad]
  simp only [dk_sh0]
  exact cp_100l hph hfg hgg hR hr hd ht hw t4 pb lx ly (by omega) R 0 K (fun j u hj => by rw [Nat.zero_add]; exact hj) (by omega) k
/-- what a pass other than the first does with a node -/
theorem cp_85 {C : Nat → ct_T} {R : List (Int32 × Int32 × Int32 × Int32)} {nq : ct_T → Nat → Bool} {ps pl : Nat} (hps : ¬ ps = 0) (hps8 : ps < 8) (hR : ∀ q, q ∈ R → ct_rok q) (hr : ck_r S R) (hd : dk_d S [] n) (ht : ck_t S 44 p (ct_nd e a b c)) (hw : dt_w (ct_nd e a b c)) (hsz : ct_sz (ct_nd e a b c) < 50000)
    (hf : ps = 4 → e.1 = 6 → (0 ≤ e.2.2.1.toInt ∧ e.2.2.1.toInt < 150) ∧ pl + 1 + ct_sz a < 150 ∧ ∃ f, ck_sb S (pl + 1 + ct_sz a) f ∧ f e.2.2.1.toNatClampNeg = nq b e.2.2.1.toNatClampNeg) (k : dk_st (dt_dn C R nq ps n e a b c) S K) :
    cm_At (am_XX L xs) (d + 6) 85 0 [some (.ref 37), some (.int (Int32.ofNat p)), some (.int (Int32.ofNat ps)), some (.int (Int32.ofNat pl))] [] S K := by
  have out : ∀ {r : Option (ct_T × Nat)} {K2 : cm_K}, dk_st r S K2 → dk_st r S (fun r S2 k2 => cm_r1 (fun x => (x = 0 ∨ x = 1) ∧ K2 (.inl (some (.int x))) S2 k2) (fun e => K2 (.inr e) S2 k2) r) := fun {r K2} h => by
    cases r with
    | none => exact ⟨Or.inl rfl, h⟩
    | some q => exact fun S2 d2 c2 => ⟨Or.inr rfl, h S2 d2 c2⟩
  unfold dt_dn at k
  rw [if_neg hps] at k
  refine cx_85_0 _ _ _ ?_
  rw [cp_tI (by omega)]
  refine ⟨fun h1 => ?_, fun h1 => ?_⟩
  · rw [if_pos (by omega)] at k
    exact cp_95 hd ht hw hsz (out k)
  rw [if_neg (by omega)] at k
  refine ⟨fun h2 => ?_, fun h2 => ?_⟩
  · rw [if_pos (by omega)] at k
    exact cp_97 hd ht hw hsz (out k)
  rw [if_neg (by omega)] at k
  refine ⟨fun h3 => ?_, fun h3 => ?_⟩
  · rw [if_pos (by omega)] at k
    exact cp_98 hd ht hw hsz (out k)
  rw [if_neg (by omega)] at k
  refine ⟨fun h4 => ?_, fun h4 => ?_⟩
  · rw [if_pos (by omega)] at k
    exact cp_99 hd ht hw hsz (fun h6 => hf (by omega) h6) (out k)
  rw [if_neg (by omega)] at k
  rw [show (5 : Int32) = Int32.ofNat 5 from rfl, cp_sb (by omega)]
  exact cp_100 (by omega) hR hr hd ht hw hsz (out k)
end CPa06
