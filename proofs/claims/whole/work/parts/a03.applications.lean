/-! ## a03 Passes of the class: simplifications of applications -/
theorem dk_fr {S S1 : cm_S} {c p : Nat} {t : ct_T} (hc : c = 44 ∨ c = 27) (c1 : cf_W cW_dr S S1) (h : ck_t S c p t) : ck_t S1 c p t := ck_t_cf c1 (fun b j q1 q2 _ _ => decide_eq_false (by rcases hc with rfl | rfl <;> omega)) h
/-- what the class reads of a node -/
theorem dk_gr {S : cm_S} {c q : Nat} {t : ct_T} (hc : c ∈ cm_codes) (ht : ck_t S c q t) (hw : ct_wf t) (hn : ¬ t = .leaf) : cp_gr S c (Int32.ofNat q) = dt_e t := by
  obtain ⟨e, a, b, x, rfl⟩ := ct_cs hw hn
  exact cp_rw hc ht
theorem dk_k {S : cm_S} {q : Nat} {t : ct_T} (ht : ck_t S 44 q t) (hw : ct_wf t) (hn : ¬ t = .leaf) : cp_g (cm_cap 44) (S.1 45) 0 (Int32.ofNat q) = dt_k t := congrArg Prod.fst (dk_gr (c := 44) (by decide) ht hw hn)
theorem dk_v {S : cm_S} {q : Nat} {t : ct_T} (ht : ck_t S 44 q t) (hw : ct_wf t) (hn : ¬ t = .leaf) : cp_g (cm_cap 44) (S.1 46) (-1) (Int32.ofNat q) = (dt_e t).2.2.1 := congrArg (fun x => x.2.2.1) (dk_gr (c := 44) (by decide) ht hw hn)
theorem dk_w {S : cm_S} {q : Nat} {t : ct_T} (ht : ck_t S 44 q t) (hw : ct_wf t) (hn : ¬ t = .leaf) : cp_g (cm_cap 44) (S.1 47) (-1) (Int32.ofNat q) = (dt_e t).2.2.2 := congrArg (fun x => x.2.2.2) (dk_gr (c := 44) (by decide) ht hw hn)
theorem dk_n {S : cm_S} {q : Nat} {t : ct_T} (ht : ck_t S 44 q t) (hw : ct_wf t) (hn : ¬ t = .leaf) : cp_g (cm_cap 44) (S.2 48) 0 (Int32.ofNat q) = (dt_e t).2.1 := congrArg (fun x => x.2.1) (dk_gr (c := 44) (by decide) ht hw hn)
theorem dk_z {S : cm_S} {q : Nat} {t : ct_T} (ht : ck_t S 44 q t) (hw : ct_wf t) (hn : ¬ t = .leaf) : cp_g (cm_cap 44) (S.1 49) 0 (Int32.ofNat q) = Int32.ofNat (ct_sz t) := cp_sz (a := 44) (by decide) ht hw hn
theorem dk_1 {p : Nat} : Int32.ofNat p + 1 = Int32.ofNat (p + 1) := cp_ad (b := 1)
/-- what is said of a step: nothing changed and false, or its draft and true -/
def dk_st (r : Option (ct_T × Nat)) (S : cm_S) (K : cm_K) : Prop := match r with
  | none => K (.inl (some (.int 0))) S 0
  | some q => ∀ S2, dk_d S2 (ct_fl q.1) q.2 → cf_W cW_dr S S2 → K (.inl (some (.int 1))) S2 0
def dt_U (U : Nat → ct_T) (g : Nat) : ct_T := if g < 8 then U g else .leaf
section CPa03
variable {L : Nat} {xs : Nat → Int32} {d : Nat} {S : cm_S} {K : cm_K} {n p : Nat} {e : ct_D} {a b c : ct_T}
theorem cp_17 {q : Nat} {t : ct_T} (ht : ck_t S 44 q t) (hw : ct_wf t) (hn : ¬ t = .leaf) (k : K (.inl (some (.int (if dt_lk (dt_k t) = true then 1 else 0)))) S 0) : cm_At (am_XX L xs) (d + 2) 17 0 [some (.ref 44), some (.int (Int32.ofNat q)), none] [] S K := by
  refine cx_17_0 (by decide) _ ?_
  refine cp_8 (by decide) (cp_r1 ?_)
  rw [dk_k ht hw hn]
  have hl : dt_lk (dt_k t) = true ↔ dt_k t = 6 ∨ dt_k t = 7 ∨ dt_k t = 8 := decide_eq_true_iff
  refine ⟨fun h => ⟨Or.inr rfl, ?_⟩, fun h6 => ⟨fun h => ⟨Or.inr rfl, ?_⟩, fun h7 => ⟨fun h => ⟨Or.inr rfl, ?_⟩, fun h8 => ⟨Or.inl rfl, ?_⟩⟩⟩⟩
  · rw [if_pos (hl.mpr (Or.inl h))] at k; exact k
  · rw [if_pos (hl.mpr (Or.inr (Or.inl h)))] at k; exact k
  · rw [if_pos (hl.mpr (Or.inr (Or.inr h)))] at k; exact k
  · rw [if_neg (fun hc => by
      rcases hl.mp hc with h | h | h
      · exact h6 h
      · exact h7 h
      · exact h8 h)] at k; exact k
theorem cp_91 {q : Nat} {t : ct_T} (ht : ck_t S 44 q t) (hw : ct_wf t) (hn : ¬ t = .leaf) (k : K (.inl (some (.int (if dt_at (dt_k t) = true then 1 else 0)))) S 0) : cm_At (am_XX L xs) (d + 2) 91 0 [some (.ref 37), some (.int (Int32.ofNat q)), none] [] S K := by
  refine cx_91_0 _ ?_
  refine cp_8 (by decide) (cp_r1 ?_)
  rw [dk_k ht hw hn]
  have hl : dt_at (dt_k t) = true ↔ dt_k t = 1 ∨ dt_k t = 2 ∨ dt_k t = 3 := decide_eq_true_iff
  refine ⟨fun h => ⟨Or.inr rfl, ?_⟩, fun h6 => ⟨fun h => ⟨Or.inr rfl, ?_⟩, fun h7 => ⟨fun h => ⟨Or.inr rfl, ?_⟩, fun h8 => ⟨Or.inl rfl, ?_⟩⟩⟩⟩
  · rw [if_pos (hl.mpr (Or.inl h))] at k; exact k
  · rw [if_pos (hl.mpr (Or.inr (Or.inl h)))] at k; exact k
  · rw [if_pos (hl.mpr (Or.inr (Or.inr h)))] at k; exact k
  · rw [if_neg (fun hc => by
      rcases hl.mp hc with h | h | h
      · exact h6 h
      · exact h7 h
      · exact h8 h)] at k; exact k
/-- a node into the body of its first part -/
theorem cp_89 (hd : dk_d S [] n) (ht : ck_t S 44 p (ct_nd e a b c)) (hw : dt_w (ct_nd e a b c)) (he : e.1 = 5 ∨ e.1 = 12 ∨ e.1 = 13) (hsz : ct_sz (ct_nd e a b c) < 50000) (k1 : dt_lk (dt_k a) = true → ∀ S2, dk_d S2 (ct_fl (dt_lift e a b c)) n → cf_W cW_dr S S2 → K (.inl (some (.int 1))) S2 0) (k0 : ¬ dt_lk (dt_k a) = true → K (.inl (some (.int 0))) S 0) :
    cm_At (am_XX L xs) (d + 4) 89 0 [some (.ref 37), some (.int (Int32.ofNat p)), none] [] S K := by
  obtain ⟨p1, p2, pa, pb, pc⟩ := dt_w_nd hw
  have lab : ¬ a = .leaf ∧ ¬ b = .leaf := by
    rcases he with he | he | he
    · have := ct_q2 hw.1 (Or.inl he); exact ⟨this.1, this.2.1⟩
    · have := ct_q3 hw.1 (Or.inl he); exact ⟨this.1, this.2.1⟩
    · have := ct_q3 hw.1 (Or.inr he); exact ⟨this.1, this.2.1⟩
  obtain ⟨la, lb⟩ := lab
  have hszn := ct_sz_nd (e := e) (a := a) (b := b) (c := c)
  have ht2 := ht
  rw [ck_t_nd] at ht2
  obtain ⟨t0, t1, t2, t3, t4, t5⟩ := ht2
  refine cx_89_0 _ ?_
  refine cp_14 (by decide) (cp_r1 ?_)
  rw [dk_1]
  refine cp_17 t3 pa.1 la (cp_r1 ?_)
  by_cases hk : dt_lk (dt_k a) = true
  · rw [if_pos hk]
    refine ⟨fun h => absurd h (by decide), fun _ => ?_⟩
    have hk6 := dt_lk_of hk
    obtain ⟨f, x, y, z, rfl⟩ := ct_cs pa.1 la
    have hk6' : f.1 = 6 ∨ f.1 = 7 ∨ f.1 = 8 := hk6
    obtain ⟨lx, ly, lz⟩ := ct_q2 pa.1 (by
      rcases hk6' with h | h | h
      · exact Or.inr (Or.inl h)
      · exact Or.inr (Or.inr (Or.inl h))
      · exact Or.inr (Or.inr (Or.inr (Or.inl h))))
    obtain ⟨q1, q2, px, py, pz⟩ := dt_w_nd pa
    have hsza := ct_sz_nd (e := f) (a := x) (b := y) (c := z)
    have t3' := t3
    rw [ck_t_nd] at t3'
    obtain ⟨u0, u1, u2, u3, u4, u5⟩ := t3'
    refine cp_51 (by decide) hd (by rw [List.length_nil]; omega) (fun S1 d1 c1 => cp_r0 ?_)
    rw [dk_gr (c := 44) (by decide) t3 pa.1 la] at d1
    refine cp_14 (by decide) (cp_r1 ?_)
    rw [dk_1]
    refine cp_52 (Or.inl rfl) d1 px.1 lx (dk_fr (Or.inl rfl) c1 u3) (by simp only [List.length_append, List.length_cons, List.length_nil]; omega) (fun S2 d2 c2 => cp_r0 ?_)
    have c12 := cf_tr c1 c2
    refine cp_51 (by decide) d2 (by simp only [List.length_append, List.length_cons, List.length_nil, ct_fl_len]; omega) (fun S3 d3 c3 => cp_r0 ?_)
    rw [dk_gr (c := 44) (by decide) (dk_fr (Or.inl rfl) c12 ht) hw.1 dt_ndl] at d3
    have c13 := cf_tr c12 c3
    refine cp_15 (by decide) (cp_r1 ?_)
    rw [cp_2nd (a := 44) (by decide) (dk_fr (Or.inl rfl) c13 t3) pa.1 lx]
    refine cp_52 (Or.inl rfl) d3 py.1 ly (dk_fr (Or.inl rfl) c13 u4) (by simp only [List.length_append, List.length_cons, List.length_nil, ct_fl_len]; omega) (fun S4 d4 c4 => cp_r0 ?_)
    have c14 := cf_tr c13 c4
    refine cp_15 (by decide) (cp_r1 ?_)
    rw [cp_2nd (a := 44) (by decide) (dk_fr (Or.inl rfl) c14 ht) hw.1 la]
    refine cp_52 (Or.inl rfl) d4 pb.1 lb (dk_fr (Or.inl rfl) c14 t4) (by simp only [List.length_append, List.length_cons, List.length_nil, ct_fl_len]; omega) (fun S5 d5 c5 => cp_r0 ?_)
    have c15 := cf_tr c14 c5
    refine cp_8 (by decide) (cp_r1 ?_)
    rw [dk_k (dk_fr (Or.inl rfl) c15 ht) hw.1 dt_ndl]
    refine cp_166p (cp_r1 ?_)
    rw [show dt_k (ct_nd e (ct_nd f x y z) b c) = e.1 from rfl, (ct_ar_pt (ct_wf_nd hw.1).1).1]
    have hfl : ct_fl (dt_lift e (ct_nd f x y z) b c) = [] ++ [f] ++ ct_fl x ++ [e] ++ ct_fl y ++ ct_fl b ++ ct_fl c := by
      show ct_fl (ct_nd f x (ct_nd e y b c) z) = _
      rw [ct_fl_nd, ct_fl_nd, lz]
      show f :: (ct_fl x ++ (e :: (ct_fl y ++ (ct_fl b ++ ct_fl c)) ++ [])) = _
      simp
    by_cases h5 : e.1 = 5
    · obtain ⟨_, _, lc⟩ := ct_q2 hw.1 (Or.inl h5)
      rw [h5]
      refine ⟨fun h => absurd h (by decide +kernel), fun _ => ⟨Or.inr rfl, ?_⟩⟩
      refine k1 hk S5 ?_ c15
      rw [hfl, lc]
      show dk_d S5 (_ ++ []) n
      rw [List.append_nil]
      exact d5
    · have h12 : e.1 = 12 ∨ e.1 = 13 := by
        rcases he with h | h | h
        · exact absurd h h5
        · exact Or.inl h
        · exact Or.inr h
      obtain ⟨_, _, lc⟩ := ct_q3 hw.1 h12
      have har : ct_ar e.1 = 3 := ct_ar_of.2.1 h12
      rw [har]
      refine ⟨fun _ => ?_, fun h => absurd rfl h⟩
      refine cp_16 (by decide) (cp_r1 ?_)
      rw [cp_3rd (a := 44) (by decide) (dk_fr (Or.inl rfl) c15 ht) hw.1 la lb]
      refine cp_52 (Or.inl rfl) d5 pc.1 lc (dk_fr (Or.inl rfl) c15 t5) (by simp only [List.length_append, List.length_cons, List.length_nil, ct_fl_len]; omega) (fun S6 d6 c6 => cp_r0 ⟨Or.inr rfl, ?_⟩)
      refine k1 hk S6 ?_ (cf_tr c15 c6)
      rw [hfl]
      exact d6
  · rw [if_neg hk]
    exact ⟨fun _ => ⟨Or.inl rfl, k0 hk⟩, fun h => absurd rfl h⟩
/-- a core written where it is applied -/
theorem cp_88 {U : Nat → ct_T} {g : Nat} (hg : g < 8) (hU : ct_ds U) (hdU : ck_d S 27 U) (hd : dk_d S [] n) (hn150 : 150 ≤ n) (hn : n < 1000000000) (ht : ck_t S 44 p (ct_nd e a b c)) (hw : dt_w (ct_nd e a b c)) (he : e.1 = 5) (hsz : ct_sz (ct_nd e a b c) < 50000) (k1 : dt_sm (U g) = true → ∀ S2, dk_d S2 (ct_fl (ct_nd e (dt_cp n (U g)) b c)) (n + dt_nb (U g)) → cf_W cW_dr S S2 → K (.inl (some (.int 1))) S2 0) (k0 : ¬ dt_sm (U g) = true → K (.inl (some (.int 0))) S 0) :
    cm_At (am_XX L xs) (d + 4) 88 0 [some (.ref 37), some (.int (Int32.ofNat p)), some (.int (Int32.ofNat (150 * g))), none] [] S K := by
  obtain ⟨p1, p2, pa, pb, pc⟩ := dt_w_nd hw
  obtain ⟨la, lb, lc⟩ := ct_q2 hw.1 (Or.inl he)
  have hszn := ct_sz_nd (e := e) (a := a) (b := b) (c := c)
  have ht2 := ht
  rw [ck_t_nd] at ht2
  obtain ⟨t0, t1, t2, t3, t4, t5⟩ := ht2
  refine cx_88_0 _ _ ?_
  refine cp_8 (by decide) (cp_r1 ?_)
  by_cases hl : U g = .leaf
  · have h1 := (hdU g hg).1 hl
    rw [cp_g_at (by rw [dk_cap.2.2.1]; omega) (by decide +kernel)]
    exact ⟨fun h => absurd h h1.2, fun _ => ⟨Or.inl rfl, k0 (by rw [hl]; decide)⟩⟩
  · obtain ⟨hco, hcan⟩ := hU g hg hl
    have tu := (hdU g hg).2 hl
    have hku : cp_g (cm_cap 27) (S.1 28) 0 (Int32.ofNat (150 * g)) = dt_k (U g) := congrArg Prod.fst (dk_gr (c := 27) (by decide) tu hco.1 hl)
    have hsu := hco.2.2.2.2.2.2.2
    rw [hku]
    refine ⟨fun h4 => ?_, fun h4 => ⟨Or.inl rfl, k0 (fun hc => h4 (dt_sm_of hc).1)⟩⟩
    refine cp_12 (by decide) (cp_r1 ?_)
    rw [cp_sz (a := 27) (by decide) tu hco.1 hl, show (8 : Int32) = Int32.ofNat 8 from rfl, cp_lt (by omega) (by omega)]
    refine ⟨fun h8 => ⟨Or.inl rfl, k0 (fun hc => by have := (dt_sm_of hc).2.1; omega)⟩, fun h8 => ?_⟩
    refine cp_27 (a := 27) (by decide) hco.1 hl tu (cp_r1 ?_)
    cases hhg : ct_hg (ct_fl (U g)) with
    | true =>
      rw [if_pos rfl]
      exact ⟨fun h => absurd h (by decide), fun _ => ⟨Or.inl rfl, k0 (fun hc => by have := (dt_sm_of hc).2.2.1; rw [hhg] at this; cases this)⟩⟩
    | false =>
      rw [if_neg (by decide)]
      refine ⟨fun _ => ?_, fun h => absurd rfl h⟩
      have hsm : dt_sm (U g) = true := by
        unfold dt_sm
        rw [decide_eq_true h4, decide_eq_true (by omega : ct_sz (U g) ≤ 8), hhg]; rfl
      obtain ⟨cw, cb, cl⟩ := dt_co_of hco (n := n) (fun x hx => by
        have hok := cu_ok_can hco hcan
        have h5 : ∀ (l : List ct_D), (∀ e, e ∈ l → (e.2.2.1 = -1 ∨ (0 ≤ e.2.2.1.toInt ∧ e.2.2.1.toInt < 150)) ∧ (e.2.2.2 = -1 ∨ (0 ≤ e.2.2.2.toInt ∧ e.2.2.2.toInt < 150))) → x ∈ ct_bl l → x.toInt < 150 := by
          intro l
          induction l with
          | nil => intro _ h; cases h
          | cons e l ih =>
            intro h1 h2
            rcases List.mem_append.mp h2 with h2 | h2
            · have h3 := h1 e List.mem_cons_self
              have hv : ∀ z : Int32, (z = -1 ∨ (0 ≤ z.toInt ∧ z.toInt < 150)) → z.toInt < 150 := fun z hz => by
                rcases hz with rfl | hz
                · decide
                · exact hz.2
              unfold ct_ob at h2
              split at h2
              · rcases List.mem_cons.mp h2 with rfl | h2
                · exact hv _ h3.1
                · rw [List.mem_singleton.mp h2]; exact hv _ h3.2
              · split at h2
                · rw [List.mem_singleton.mp h2]; exact hv _ h3.1
                · cases h2
            · exact ih (fun e he => h1 e (List.mem_cons_of_mem _ he)) h2
        have := h5 _ hok hx
        omega)
      have hnb := dt_nb_sz hco.1
      refine cp_51 (by decide) hd (by rw [List.length_nil]; omega) (fun S1 d1 c1 => cp_r0 ?_)
      rw [dk_gr (c := 44) (by decide) ht hw.1 dt_ndl] at d1
      rintro _ rfl
      rw [d1.1]
      refine cp_52 (Or.inr rfl) d1 hco.1 hl (dk_fr (Or.inr rfl) c1 tu) (by simp only [List.length_append, List.length_cons, List.length_nil]; omega) (fun S2 d2 c2 => cp_r0 ?_)
      refine cp_53 d2 cw cb (by omega) (fun S3 d3 c3 => cp_r0 ?_)
      have c13 := cf_tr c1 (cf_tr c2 c3)
      refine cp_15 (by decide) (cp_r1 ?_)
      rw [cp_2nd (a := 44) (by decide) (dk_fr (Or.inl rfl) c13 ht) hw.1 la]
      have hcps : ct_sz (dt_cp n (U g)) = ct_sz (U g) := ct_map_sz _
      refine cp_52 (Or.inl rfl) d3 pb.1 lb (dk_fr (Or.inl rfl) c13 t4) (by simp only [List.length_append, List.length_cons, List.length_nil, ct_fl_len]; omega) (fun S4 d4 c4 => cp_r0 ⟨Or.inr rfl, ?_⟩)
      refine k1 hsm S4 ?_ (cf_tr c13 c4)
      rw [ct_fl_nd, lc]
      have e1 : [] ++ [dt_e (ct_nd e a b c)] ++ ct_fl (dt_cp n (U g)) ++ ct_fl b = e :: (ct_fl (dt_cp n (U g)) ++ (ct_fl b ++ ct_fl .leaf)) := by
        show _ = e :: (ct_fl (dt_cp n (U g)) ++ (ct_fl b ++ []))
        simp [dt_e, ct_nd]
      rw [← e1]
      exact d4
/-- an application -/
theorem cp_87 {U : Nat → ct_T} (hU : ct_ds U) (hdU : ck_d S 27 U) (hd : dk_d S [] n) (hn150 : 150 ≤ n) (hn : n < 1000000000) (ht : ck_t S 44 p (ct_nd e a b c)) (hw : dt_w (ct_nd e a b c)) (he : e.1 = 5) (hsz : ct_sz (ct_nd e a b c) < 50000) (k : dk_st (dt_ap (dt_U U) n e a b c) S K) :
    cm_At (am_XX L xs) (d + 5) 87 0 [some (.ref 37), some (.int (Int32.ofNat p)), none] [] S K := by
  obtain ⟨p1, p2, pa, pb, pc⟩ := dt_w_nd hw
  obtain ⟨la, lb, lc⟩ := ct_q2 hw.1 (Or.inl he)
  have hszn := ct_sz_nd (e := e) (a := a) (b := b) (c := c)
  have ht2 := ht
  rw [ck_t_nd] at ht2
  obtain ⟨t0, t1, t2, t3, t4, t5⟩ := ht2
  unfold dt_ap at k
  refine cx_87_0 _ ?_
  refine cp_14 (by decide) (cp_r1 ?_)
  rw [dk_1]
  refine cp_8 (by decide) (cp_r1 ?_)
  rw [dk_k t3 pa.1 la]
  refine ⟨fun h4 => ?_, fun h4 => ?_⟩
  · rw [if_pos h4] at k
    obtain ⟨f, x, y, z, rfl⟩ := ct_cs pa.1 la
    have h4' : f.1 = 4 := h4
    obtain ⟨lx, ly, lz⟩ := ct_q1 pa.1 (Or.inl h4')
    obtain ⟨q1, q2, px, py, pz⟩ := dt_w_nd pa
    have hsza := ct_sz_nd (e := f) (a := x) (b := y) (c := z)
    have t3' := t3
    rw [ck_t_nd] at t3'
    obtain ⟨u0, u1, u2, u3, u4, u5⟩ := t3'
    refine cp_9 (by decide) (cp_r1 ?_)
    rw [dk_v t3 pa.1 la]
    refine cp_50 hd (by rw [List.length_nil]; omega) (fun S1 d1 c1 => cp_r0 ?_)
    refine cp_15 (by decide) (cp_r1 ?_)
    rw [cp_2nd (a := 44) (by decide) (dk_fr (Or.inl rfl) c1 ht) hw.1 la]
    refine cp_52 (Or.inl rfl) d1 pb.1 lb (dk_fr (Or.inl rfl) c1 t4) (by simp only [List.length_append, List.length_cons, List.length_nil]; omega) (fun S2 d2 c2 => cp_r0 ?_)
    have c12 := cf_tr c1 c2
    refine cp_14 (by decide) (cp_r1 ?_)
    rw [dk_1]
    refine cp_52 (Or.inl rfl) d2 px.1 lx (dk_fr (Or.inl rfl) c12 u3) (by simp only [List.length_append, List.length_cons, List.length_nil, ct_fl_len]; omega) (fun S3 d3 c3 => cp_r0 ⟨Or.inr rfl, ?_⟩)
    refine k S3 ?_ (cf_tr c12 c3)
    have e1 : [] ++ [((6 : Int32), (0 : Int64), f.2.2.1, (-1 : Int32))] ++ ct_fl b ++ ct_fl x = ct_fl (dt_LET f.2.2.1 b x) := by
      unfold dt_LET
      rw [ct_fl_nd]
      show _ = _ :: (ct_fl b ++ (ct_fl x ++ []))
      simp
    rw [show ct_fl (dt_LET (dt_e (ct_nd f x y z)).2.2.1 b (dt_a (ct_nd f x y z))) = ct_fl (dt_LET f.2.2.1 b x) from rfl, ← e1]
    exact d3
  · rw [if_neg h4] at k
    refine cp_8 (by decide) (cp_r1 ?_)
    rw [dk_k t3 pa.1 la]
    refine ⟨fun h3 => ?_, fun h3 => ?_⟩
    · have hlk : ¬ dt_lk (dt_k a) = true := by rw [h3]; decide
      rw [if_neg hlk] at k
      refine cp_11 (by decide) (cp_r2 ?_)
      rw [dk_n t3 pa.1 la]
      have hnum : 0 ≤ (dt_e a).2.1.toInt ∧ (dt_e a).2.1.toInt < 8 := by
        have h5 := pa.2.2
        rw [dt_nd pa.1 la] at h5
        exact (ct_nus_nd h5).1.1 h3
      have hc : (dt_e a).2.1.toInt32 = Int32.ofNat (dt_gn (dt_e a)) ∧ dt_gn (dt_e a) < 8 := cu_i32 hnum
      have hUg : dt_U U (dt_gn (dt_e a)) = U (dt_gn (dt_e a)) := if_pos hc.2
      rw [hc.1]
      refine cp_165 (cp_r1 ?_)
      rw [cp_rt]
      refine cp_88 hc.2 hU hdU hd hn150 hn ht hw he hsz (fun hsm S2 d2 c2 => cp_r1 ⟨Or.inr rfl, ?_⟩) (fun hsm => cp_r1 ⟨Or.inl rfl, ?_⟩)
      · rw [if_pos ⟨h3, by rw [hUg]; exact hsm⟩] at k
        refine k S2 ?_ c2
        dsimp only
        rw [hUg]
        exact d2
      · rw [if_neg (fun hc => hsm (by rw [← hUg]; exact hc.2))] at k
        exact k
    · refine cp_89 hd ht hw (Or.inl he) hsz (fun hk S2 d2 c2 => cp_r1 ⟨Or.inr rfl, ?_⟩) (fun hk => cp_r1 ⟨Or.inl rfl, ?_⟩)
      · rw [if_pos hk] at k
        exact k S2 d2 c2
      · rw [if_neg hk, if_neg (fun hc => h3 hc.1)] at k
        exact k
end CPa03
