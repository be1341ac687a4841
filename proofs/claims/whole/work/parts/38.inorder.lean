/-! ## 38 a tree taken over with its variables numbered in the order of binding -/
theorem cp_k6 {k : Int32} {n : Int32} {m : Int} (h : n.toInt = m) : k.toInt = m ↔ k = n := by subst h; exact Int32.toInt_inj
def cp_en (S : cm_S) (a : Nat) (p : Int32) : Int32 := p + cp_g (cm_cap a) (S.1 (a + 5)) 0 p
theorem cp_en_t {S : cm_S} {a r : Nat} {t : ct_T} (ha : a ∈ cm_codes) (h : ck_t S a r t) (hw : ct_wf t) (hn : ¬ t = .leaf) : cp_en S a (Int32.ofNat r) = Int32.ofNat (r + ct_sz t) := by
  unfold cp_en
  rw [cp_sz ha h hw hn, cp_ad]
def cp_mom (S : cm_S) (a : Nat) (p : Int32) : Int32 := if cp_g (cm_cap a) (S.1 (a + 1)) 0 p = 6 ∨ cp_g (cm_cap a) (S.1 (a + 1)) 0 p = 8 then 2 * cp_en S a (p + 1) else if cp_g (cm_cap a) (S.1 (a + 1)) 0 p = 12 then 2 * cp_en S a (cp_en S a (p + 1)) else 2 * p + 1
/-- a tree with other names -/
def ct_rd (f : Int32 → Int32) (e : ct_D) : ct_D := (e.1, e.2.1, f e.2.2.1, f e.2.2.2)
def ct_map (f : Int32 → Int32) : ct_T → ct_T
  | .inner n e u a (.inner m e2 u2 b c) => .inner n (ct_rd f e) u (ct_map f a) (.inner m e2 u2 (ct_map f b) (ct_map f c))
  | t => t
theorem ct_map_nd {f : Int32 → Int32} {e : ct_D} {a b c : ct_T} : ct_map f (ct_nd e a b c) = ct_nd (ct_rd f e) (ct_map f a) (ct_map f b) (ct_map f c) := rfl
theorem ct_map_lf {f : Int32 → Int32} {t : ct_T} (hw : ct_wf t) : ct_map f t = .leaf ↔ t = .leaf :=
  ct_ind (P := fun t => ct_map f t = .leaf ↔ t = .leaf) ⟨fun _ => rfl, fun _ => rfl⟩ (fun e a b c _ _ _ _ => ⟨fun h => absurd (show ct_nd (ct_rd f e) (ct_map f a) (ct_map f b) (ct_map f c) = .leaf from h) (by intro h; cases h), fun h => absurd h (by intro h; cases h)⟩) t hw
theorem ct_map_wf {f : Int32 → Int32} : ∀ t, ct_wf t → ct_wf (ct_map f t) :=
  ct_ind trivial (fun e a b c hw iha ihb ihc => by
    obtain ⟨h1, h2, h3, h4, h5, h6, h7⟩ := ct_wf_nd hw
    rw [ct_map_nd]
    exact ⟨rfl, rfl, rfl, h1, (ct_map_lf h5).trans h2, (ct_map_lf h6).trans h3, (ct_map_lf h7).trans h4, iha, ihb, ihc⟩)
theorem ct_map_sz {f : Int32 → Int32} : ∀ t, ct_sz (ct_map f t) = ct_sz t
  | .leaf => rfl
  | .inner _ _ _ _ .leaf => rfl
  | .inner _ e _ a (.inner _ _ _ b c) => by
    show 1 + (ct_sz (ct_map f a) + (ct_sz (ct_map f b) + ct_sz (ct_map f c))) = 1 + (ct_sz a + (ct_sz b + ct_sz c))
    rw [ct_map_sz a, ct_map_sz b, ct_map_sz c]
theorem ct_map_ss {f : Int32 → Int32} : ∀ t, ct_ss (ct_map f t) = ct_ss t
  | .leaf => rfl
  | .inner _ _ _ _ .leaf => rfl
  | .inner _ e _ a (.inner _ _ _ b c) => by
    show (1 + (ct_sz (ct_map f a) + (ct_sz (ct_map f b) + ct_sz (ct_map f c)))) :: (ct_ss (ct_map f a) ++ (ct_ss (ct_map f b) ++ ct_ss (ct_map f c))) = (1 + (ct_sz a + (ct_sz b + ct_sz c))) :: (ct_ss a ++ (ct_ss b ++ ct_ss c))
    rw [ct_map_sz a, ct_map_sz b, ct_map_sz c, ct_map_ss a, ct_map_ss b, ct_map_ss c]
theorem ct_map_fl {f : Int32 → Int32} : ∀ t, ct_fl (ct_map f t) = (ct_fl t).map (ct_rd f)
  | .leaf => rfl
  | .inner _ _ _ _ .leaf => rfl
  | .inner _ e _ a (.inner _ _ _ b c) => by
    show ct_rd f e :: (ct_fl (ct_map f a) ++ (ct_fl (ct_map f b) ++ ct_fl (ct_map f c))) = (e :: (ct_fl a ++ (ct_fl b ++ ct_fl c))).map (ct_rd f)
    rw [ct_map_fl a, ct_map_fl b, ct_map_fl c, List.map_cons, List.map_append, List.map_append]
def ct_rp (P B : List Int32) (x : Int32) : Int32 := if x ∈ P then Int32.ofNat (ct_ix x B) else x
/-- a tree with its variables numbered in the order of binding -/
def ct_can (t : ct_T) : ct_T := ct_map (ct_rp (ct_bo t) (ct_bo t)) t
def ct_to (x y : Int32) (e f : ct_D) : ct_D := (f.1, f.2.1, if e.2.2.1 = x then y else f.2.2.1, if e.2.2.2 = x then y else f.2.2.2)
theorem ct_to_rp {x : Int32} {P B : List Int32} : ∀ l : List ct_D, List.zipWith (ct_to x (Int32.ofNat (ct_ix x B))) l (l.map (ct_rd (ct_rp P B))) = l.map (ct_rd (ct_rp (x :: P) B))
  | [] => rfl
  | e :: l => by
    rw [List.map_cons, List.map_cons, List.zipWith_cons_cons, ct_to_rp l]
    congr 1
    have h : ∀ v, (if v = x then Int32.ofNat (ct_ix x B) else ct_rp P B v) = ct_rp (x :: P) B v := by
      intro v
      unfold ct_rp
      by_cases hv : v = x
      · subst hv
        rw [if_pos rfl, if_pos List.mem_cons_self]
      · rw [if_neg hv]
        by_cases hp : v ∈ P
        · rw [if_pos hp, if_pos (List.mem_cons_of_mem _ hp)]
        · rw [if_neg hp, if_neg (fun hc => by rcases List.mem_cons.mp hc with hc | hc; exact hv hc; exact hp hc)]
    show (e.1, e.2.1, _, _) = (e.1, e.2.1, _, _)
    rw [← h, ← h]
    rfl
def cW_v (a lo hi b j : Nat) : Bool := decide ((b = a + 2 ∨ b = a + 3) ∧ lo ≤ j ∧ j < hi)
theorem ck_f_len {S : cm_S} {a r : Nat} {l l2 : List ct_D} (h : l = l2) (hk : ck_f S a r l) : ck_f S a r l2 := h ▸ hk
section CP38
variable {L : Nat} {xs : Nat → Int32} {d a c : Nat} {p q : Int32} {S : cm_S} {K : cm_K}
theorem cp_15 (ha : a ∈ cm_codes) (k : K (.inl (some (.int (cp_en S a (p + 1))))) S 0) : cm_At (am_XX L xs) (d + 2) 15 0 [some (.ref a), some (.int p)] [] S K :=
  cx_15_0 ha p (cp_13 ha (cp_r1 k))
theorem cp_16 (ha : a ∈ cm_codes) (k : K (.inl (some (.int (cp_en S a (cp_en S a (p + 1)))))) S 0) : cm_At (am_XX L xs) (d + 2) 16 0 [some (.ref a), some (.int p)] [] S K :=
  cx_16_0 ha p (cp_13 ha (cp_r1 (cp_13 ha (cp_r1 k))))
theorem cp_18 (ha : a ∈ cm_codes) (k : K (.inl (some (.int (if ct_ib (cp_gr S a p) = true then 1 else 0)))) S 0) : cm_At (am_XX L xs) (d + 2) 18 0 [some (.ref a), some (.int p)] [] S K := by
  refine cx_18_0 ha p (cp_9 ha (cp_r1 ?_))
  refine ⟨fun h => ⟨Or.inl rfl, ?_⟩, fun h => cp_8 ha (cp_r1 ⟨fun h2 => ⟨Or.inl rfl, ?_⟩, fun h2 => ⟨Or.inr rfl, ?_⟩⟩)⟩
  · rw [if_neg (fun hc => (of_decide_eq_true hc).1 h)] at k; exact k
  · rw [if_neg (fun hc => (of_decide_eq_true hc).2 h2)] at k; exact k
  · rw [if_pos (show ct_ib (cp_gr S a p) = true from decide_eq_true ⟨h, h2⟩)] at k; exact k
theorem cp_31 (ha : a ∈ cm_codes) (k : K (.inl (some (.int (cp_mom S a p)))) S 0) : cm_At (am_XX L xs) (d + 3) 31 0 [some (.ref a), some (.int p)] [] S K := by
  unfold cp_mom at k
  refine cx_31_0 ha p (cp_8 ha (cp_r1 ?_))
  rw [cp_k6 (n := 6) (m := 6) rfl, cp_k6 (n := 8) (m := 8) rfl, cp_k6 (n := 12) (m := 12) rfl]
  refine ⟨fun h => cp_15 ha (cp_r1 ?_), fun h => ⟨fun h2 => cp_15 ha (cp_r1 ?_), fun h2 => ⟨fun h3 => cp_16 ha (cp_r1 ?_), fun h3 => ?_⟩⟩⟩
  · rw [if_pos (Or.inl h)] at k; exact k
  · rw [if_pos (Or.inr h2)] at k; exact k
  · rw [if_neg (fun hc => by rcases hc with hc | hc; exact h hc; exact h2 hc), if_pos h3] at k; exact k
  · rw [if_neg (fun hc => by rcases hc with hc | hc; exact h hc; exact h2 hc), if_neg h3] at k; exact k
theorem cp_mom_t (ha : a ∈ cm_codes) : ∀ t, ct_wf t → ∀ r, ck_t S a r t → ∀ (i m : Nat), (ct_mm r t)[i]? = some m → cp_mom S a (Int32.ofNat (r + i)) = Int32.ofNat m :=
  ct_ind (fun r _ i m h => by simp [ct_mm] at h) (fun e x y z hw ihx ihy ihz r ht i m h => by
    obtain ⟨w1, w2, w3, w4, w5, w6, w7⟩ := ct_wf_nd hw
    rw [ct_mm_nd] at h
    rw [ck_t_nd] at ht
    obtain ⟨t0, t1, t2, t3, t4, t5⟩ := ht
    rcases i with _ | i
    · rw [List.getElem?_cons_zero] at h
      cases h
      have e1 : cp_g (cm_cap a) (S.1 (a + 1)) 0 (Int32.ofNat r) = e.1 := by rw [cp_g_at t2 (cp_cap ha), ← t0]; rfl
      unfold cp_mom ct_mo
      rw [show r + 0 = r from rfl, e1, show Int32.ofNat r + 1 = Int32.ofNat (r + 1) from cp_ad (b := 1)]
      by_cases q1 : e.1 = 6 ∨ e.1 = 8
      · rw [if_pos q1, if_pos q1, cp_en_t ha t3 w5 (fun hc => by rw [w2, ct_ar_2 q1] at hc; omega)]
        exact cp_ml (a := 2)
      · rw [if_neg q1, if_neg q1]
        by_cases q2 : e.1 = 12
        · rw [if_pos q2, if_pos q2, cp_en_t ha t3 w5 (fun hc => by rw [w2, ct_ar_3 q2] at hc; omega), cp_en_t ha t4 w6 (fun hc => by rw [w3, ct_ar_3 q2] at hc; omega)]
          exact cp_ml (a := 2)
        · rw [if_neg q2, if_neg q2]
          rw [show (2 : Int32) * Int32.ofNat r = Int32.ofNat (2 * r) from cp_ml (a := 2)]
          exact cp_ad (b := 1)
    · rw [List.getElem?_cons_succ, List.getElem?_append, ct_mm_len] at h
      by_cases g1 : i < ct_sz x
      · rw [if_pos g1] at h
        rw [show r + (i + 1) = r + 1 + i by omega]
        exact ihx _ t3 i m h
      · rw [if_neg g1, List.getElem?_append, ct_mm_len] at h
        by_cases g2 : i - ct_sz x < ct_sz y
        · rw [if_pos g2] at h
          rw [show r + (i + 1) = r + 1 + ct_sz x + (i - ct_sz x) by omega]
          exact ihy _ t4 _ m h
        · rw [if_neg g2] at h
          rw [show r + (i + 1) = r + 1 + ct_sz x + ct_sz y + (i - ct_sz x - ct_sz y) by omega]
          exact ihz _ t5 _ m h)
theorem cp_30l (ha : a ∈ cm_code7) {q1 q2 : Int32} {m : Nat} (hm : m < 100000) : ∀ (l : List ct_D) (ns : List Nat) (r n : Nat) (K : cm_K), l.length = ns.length → ck_f S a r l → (∀ (i k : Nat), ns[i]? = some k → cp_mom S a (Int32.ofNat (r + i)) = Int32.ofNat k ∧ k < 100000) → r + l.length ≤ cm_cap a → K (.inl (some (.int (Int32.ofNat (n + ct_cb m l ns))))) S 0 →
    cm_At (am_XX L xs) (d + 4) 30 19 [some (.ref a), some (.int q1), some (.int q2), some (.int (Int32.ofNat (r + l.length))), some (.int (Int32.ofNat m)), some (.int (Int32.ofNat n)), some (.int (Int32.ofNat r))] [] S K
  | [], ns, r, n, K, hl, hf, hc, hr, k => by
    have gc := (cp_aI (cp_c7 ha)).2.2
    exact cx_30_19 ha _ _ _ _ _ _ ⟨fun h => absurd h (by rw [List.length_nil, cp_lt (by rw [List.length_nil] at hr; omega) (by rw [List.length_nil] at hr; omega)]; omega), fun _ => k⟩
  | e :: l, [], r, n, K, hl, hf, hc, hr, k => by simp at hl
  | e :: l, m2 :: ns, r, n, K, hl, hf, hc, hr, k => by
    have ha8 := cp_c7 ha
    have gc := (cp_aI ha8).2.2
    rw [ck_f_cons] at hf
    rw [List.length_cons] at hr ⊢
    rw [List.length_cons, List.length_cons] at hl
    have k2 : K (.inl (some (.int (Int32.ofNat (n + ((if ct_ib e = true ∧ m2 < m then ct_wt e else 0) + ct_cb m l ns)))))) S 0 := k
    have e1 : S.1 (a + 1) r = e.1 := by rw [← hf.1]; rfl
    have hc0 := hc 0 m2 rfl
    rw [Nat.add_zero] at hc0
    have hcs : ∀ (i k : Nat), ns[i]? = some k → cp_mom S a (Int32.ofNat (r + 1 + i)) = Int32.ofNat k ∧ k < 100000 := fun i k hi => by
      have h := hc (i + 1) k (by rw [List.getElem?_cons_succ]; exact hi)
      rw [show r + (i + 1) = r + 1 + i by omega] at h
      exact h
    refine cx_30_19 ha _ _ _ _ _ _ ⟨fun _ => ?_, fun h => absurd (by rw [cp_lt (by omega) (by omega)]; omega) h⟩
    rw [show (1 : Int32) = Int32.ofNat 1 from rfl, show (2 : Int32) = Int32.ofNat 2 from rfl, cp_ad, cp_ad, cp_ad, show r + (l.length + 1) = r + 1 + l.length by omega]
    refine cp_18 ha8 (cp_r1 ?_)
    rw [cp_gr_at ha8 (by omega), hf.1]
    by_cases hib : ct_ib e = true
    · rw [if_pos hib]
      refine ⟨fun h => absurd h (by decide), fun _ => ?_⟩
      refine cp_31 ha8 (cp_r1 ?_)
      rw [hc0.1]
      refine ⟨fun h => ?_, fun h => ?_⟩
      · rw [cp_lt (by omega) (by omega)] at h
        rw [if_pos ⟨hib, h⟩] at k2
        unfold ct_wt at k2
        refine cp_8 ha8 (cp_r1 ?_)
        rw [cp_g_at (by omega) (cp_cap ha8), e1]
        refine ⟨fun h2 => ?_, fun h2 => ?_⟩
        · rw [if_pos h2, show n + (2 + ct_cb m l ns) = n + 2 + ct_cb m l ns by omega] at k2
          exact cp_30l ha hm l ns (r + 1) (n + 2) _ (by omega) hf.2 hcs (by omega) k2
        · rw [if_neg h2, show n + (1 + ct_cb m l ns) = n + 1 + ct_cb m l ns by omega] at k2
          exact cp_30l ha hm l ns (r + 1) (n + 1) _ (by omega) hf.2 hcs (by omega) k2
      · rw [cp_lt (by omega) (by omega)] at h
        rw [if_neg (fun hc => h hc.2), Nat.zero_add] at k2
        exact cp_30l ha hm l ns (r + 1) n _ (by omega) hf.2 hcs (by omega) k2
    · rw [if_neg hib]
      rw [if_neg (fun hc => hib hc.1), Nat.zero_add] at k2
      exact ⟨fun _ => cp_30l ha hm l ns (r + 1) n _ (by omega) hf.2 hcs (by omega) k2, fun h => absurd rfl h⟩
theorem cp_30 (ha : a ∈ cm_code7) {t : ct_T} {r i m : Nat} (hw : ct_wf t) (hn : ¬ t = .leaf) (h : ck_t S a r t) (hi : (ct_mm r t)[i]? = some m) (k : K (.inl (some (.int (Int32.ofNat (ct_cb m (ct_fl t) (ct_mm r t)))))) S 0) :
    cm_At (am_XX L xs) (d + 4) 30 0 [some (.ref a), some (.int (Int32.ofNat (r + i))), some (.int (Int32.ofNat r)), none, none, none, none] [] S K := by
  have ha8 := cp_c7 ha
  have gc := (cp_aI ha8).2.2
  have h3 := h.2.2
  have hb : ∀ k, k ∈ ct_mm r t → k < 100000 := fun k hk => by have := ct_mm_b t hw r k hk; omega
  refine cx_30_0 ha _ _ ?_
  refine cp_13t ha8 h hw hn (cp_r1 ?_)
  refine cp_31 ha8 (cp_r1 ?_)
  rw [cp_mom_t ha8 t hw r h i m hi, ← ct_fl_len]
  refine cp_30l ha (hb m (List.mem_of_getElem? hi)) (ct_fl t) (ct_mm r t) r 0 _ (by rw [ct_fl_len, ct_mm_len]) h.1 (fun j k hj => ⟨cp_mom_t ha8 t hw r h j k hj, hb k (List.mem_of_getElem? hj)⟩) (by rw [ct_fl_len]; exact h3) ?_
  rw [Nat.zero_add]
  exact k
theorem cp_29l (ha : a ∈ cm_codes) (hc : c ∈ cm_codes) (hne : ¬ a = c) {r s : Nat} {x y : Int32} : ∀ (l dl : List ct_D) (i : Nat) (S : cm_S) (K : cm_K), l.length = dl.length → ck_f S c (s + i) l → ck_f S a (r + i) dl → r + i + l.length ≤ cm_cap a → s + i + l.length ≤ cm_cap c →
    (∀ S2, ck_f S2 a (r + i) (List.zipWith (ct_to x y) l dl) → cf_W (cW_v a (r + i) (r + i + l.length)) S S2 → K (.inl none) S2 0) →
    cm_At (am_XX L xs) (d + 2) 29 20 [some (.ref a), some (.int (Int32.ofNat r)), some (.ref c), some (.int (Int32.ofNat s)), some (.int x), some (.int y), some (.int (Int32.ofNat (i + l.length))), some (.int (Int32.ofNat i))] [] S K
  | [], dl, i, S, K, hl, hf, hd, h1, h2, k => by
    have gc := (cp_aI ha).2.2
    refine cx_29_20 ha hc _ _ _ _ _ _ ⟨fun h => absurd h ?_, fun _ => ?_⟩
    · rw [List.length_nil] at *; rw [cp_lt (by omega) (by omega)]; omega
    · exact k S (by rw [List.zipWith_nil_left]; exact ck_f_nil) cf_rfl
  | e :: l, [], i, S, K, hl, hf, hd, h1, h2, k => by simp at hl
  | e :: l, f :: dl, i, S, K, hl, hf, hd, h1, h2, k => by
    obtain ⟨ga, gl, gc⟩ := cp_aI ha
    have gc2 := (cp_aI hc).2.2
    have hac := cp_ac ha hc hne
    simp only [List.length_cons] at hl h1 h2 k
    rw [ck_f_cons] at hf hd
    have e2 : S.1 (c + 2) (s + i) = e.2.2.1 := by rw [← hf.1]; rfl
    have e3 : S.1 (c + 3) (s + i) = e.2.2.2 := by rw [← hf.1]; rfl
    rw [List.length_cons]
    refine cx_29_20 ha hc _ _ _ _ _ _ ⟨fun _ => ?_, fun h => absurd (by rw [cp_lt (by omega) (by omega)]; omega) h⟩
    rw [cp_ad, cp_ad]
    have fin : ∀ (S1 : cm_S) (K2 : cm_K), cf_W (cW_v a (r + i) (r + i + 1)) S S1 → cp_row S1 a (r + i) = ct_to x y e f → (∀ S2, K (.inl none) S2 0 → K2 (.inl none) S2 0) → cm_At (am_XX L xs) (d + 2) 29 20 [some (.ref a), some (.int (Int32.ofNat r)), some (.ref c), some (.int (Int32.ofNat s)), some (.int x), some (.int y), some (.int (Int32.ofNat (i + (l.length + 1)))), some (.int (Int32.ofNat i + 1))] [] S1 K2 := by
      intro S1 K2 c1 hrow hK
      rw [show Int32.ofNat i + 1 = Int32.ofNat (i + 1) from cp_ad (b := 1), show i + (l.length + 1) = i + 1 + l.length by omega]
      refine cp_29l ha hc hne l dl (i + 1) S1 K2 (by omega) ?_ ?_ (by omega) (by omega) ?_
      · rw [show s + (i + 1) = s + i + 1 by omega]
        exact ck_f_cf c1 (fun b j q1 q2 q3 q4 => decide_eq_false (by omega)) hf.2
      · rw [show r + (i + 1) = r + i + 1 by omega]
        exact ck_f_cf c1 (fun b j q1 q2 q3 q4 => decide_eq_false (by omega)) hd.2
      · intro S2 g1 g2
        refine hK S2 (k S2 ?_ ?_)
        · rw [List.zipWith_cons_cons, ck_f_cons]
          refine ⟨?_, by rw [show r + i + 1 = r + (i + 1) by omega]; exact g1⟩
          rw [← hrow]
          have hw : ∀ b, cW_v a (r + (i + 1)) (r + (i + 1) + l.length) b (r + i) = false := fun b => decide_eq_false (by omega)
          unfold cp_row
          rw [(g2 _ _ (hw (a + 1))).1, (g2 _ _ (hw (a + 2))).1, (g2 _ _ (hw (a + 3))).1, (g2 _ _ (hw (a + 4))).2]
        · exact cf_tr (cf_mono c1 (fun b j h => decide_eq_true (by have h := of_decide_eq_true h; omega))) (cf_mono g2 (fun b j h => decide_eq_true (by have h := of_decide_eq_true h; omega)))
    have hf1 : ∀ {b : Nat}, S.1 (a + 1) (r + i) = f.1 ∧ S.2 (a + 4) (r + i) = f.2.1 ∧ S.1 (a + 2) (r + i) = f.2.2.1 ∧ S.1 (a + 3) (r + i) = f.2.2.2 := by
      intro _
      rw [← hd.1]
      exact ⟨rfl, rfl, rfl, rfl⟩
    obtain ⟨f1, f2, f3, f4⟩ := hf1 (b := 0)
    refine cp_9 hc (cp_r1 ?_)
    rw [cp_g_at (by omega) (cp_cap hc), e2]
    refine ⟨fun hx => ?_, fun hx => ?_⟩
    · refine cp_167 ga.1 (cp_r0 ?_)
      rw [cp_w_at (by rw [gl.1]; omega) (by rw [gl.1]; omega)]
      refine cp_10 hc (cp_r1 ?_)
      rw [cp_g_at (by omega) (cp_cap hc), cp_wI1, if_neg (by omega), e3]
      refine ⟨fun hx2 => ?_, fun hx2 => ?_⟩
      · refine cp_167 ga.2.1 (cp_r0 ?_)
        rw [cp_w_at (by rw [gl.2.1]; omega) (by rw [gl.2.1]; omega)]
        refine fin _ _ (cf_tr (cf_wI (decide_eq_true (by omega))) (cf_wI (decide_eq_true (by omega)))) ?_ (fun S2 h => h)
        unfold cp_row ct_to
        rw [if_pos hx, if_pos hx2]
        simp [cp_wI1, cp_wI2, f1, f2]
      · refine fin _ _ (cf_wI (decide_eq_true (by omega))) ?_ (fun S2 h => h)
        unfold cp_row ct_to
        rw [if_pos hx, if_neg hx2]
        simp [cp_wI1, cp_wI2, f1, f2, f4]
    · refine cp_10 hc (cp_r1 ?_)
      rw [cp_g_at (by omega) (cp_cap hc), e3]
      refine ⟨fun hx2 => ?_, fun hx2 => ?_⟩
      · refine cp_167 ga.2.1 (cp_r0 ?_)
        rw [cp_w_at (by rw [gl.2.1]; omega) (by rw [gl.2.1]; omega)]
        refine fin _ _ (cf_wI (decide_eq_true (by omega))) ?_ (fun S2 h => h)
        unfold cp_row ct_to
        rw [if_neg hx, if_pos hx2]
        simp [cp_wI1, cp_wI2, f1, f2, f3]
      · refine fin _ _ cf_rfl ?_ (fun S2 h => h)
        unfold cp_row ct_to
        rw [if_neg hx, if_neg hx2, f1, f2, f3, f4]
theorem cp_29z (ha : a ∈ cm_codes) (hc : c ∈ cm_codes) {y : Int32} (k : K (.inl none) S 0) : cm_At (am_XX L xs) (d + 2) 29 0 [some (.ref a), some (.int p), some (.ref c), some (.int q), some (.int (-1)), some (.int y), none, none] [] S K :=
  cx_29_0 ha hc _ _ _ _ ⟨fun _ => cx_29_20 ha hc _ _ _ _ _ _ ⟨fun h => absurd h (by decide), fun _ => k⟩, fun h => absurd rfl h⟩
theorem cp_29 (ha : a ∈ cm_codes) (hc : c ∈ cm_codes) (hne : ¬ a = c) {r s : Nat} {x y : Int32} {t : ct_T} {dl : List ct_D} (hx : ¬ x = -1) (hw : ct_wf t) (hn : ¬ t = .leaf) (h : ck_t S c s t) (hl : ct_sz t = dl.length) (hd : ck_f S a r dl) (hr : r + ct_sz t ≤ cm_cap a)
    (k : ∀ S2, ck_f S2 a r (List.zipWith (ct_to x y) (ct_fl t) dl) → cf_W (cW_v a r (r + ct_sz t)) S S2 → K (.inl none) S2 0) :
    cm_At (am_XX L xs) (d + 2) 29 0 [some (.ref a), some (.int (Int32.ofNat r)), some (.ref c), some (.int (Int32.ofNat s)), some (.int x), some (.int y), none, none] [] S K := by
  refine cx_29_0 ha hc _ _ _ _ ⟨fun h => absurd h hx, fun _ => ?_⟩
  refine cp_12 hc (cp_r1 ?_)
  rw [cp_sz hc h hw hn]
  have h2 := cp_29l (L := L) (xs := xs) (d := d) ha hc hne (r := r) (s := s) (x := x) (y := y) (ct_fl t) dl 0 S (cm_sh K 0) (by rw [ct_fl_len]; exact hl) h.1 hd (by rw [ct_fl_len]; exact hr) (by rw [ct_fl_len]; exact h.2.2) (fun S2 g1 g2 => k S2 g1 (by rw [ct_fl_len] at g2; exact g2))
  rw [ct_fl_len, Nat.zero_add] at h2
  exact h2
end CP38
