/-! ## 35 Code: sizes, counts, prints -/
theorem ct_kinds {k : Int32} (h : 1 ≤ k.toInt ∧ k.toInt ≤ 14) : k = 1 ∨ k = 2 ∨ k = 3 ∨ k = 4 ∨ k = 5 ∨ k = 6 ∨ k = 7 ∨ k = 8 ∨ k = 9 ∨ k = 10 ∨ k = 11 ∨ k = 12 ∨ k = 13 ∨ k = 14 := by
  simp only [← Int32.toInt_inj]
  simp only [show (1 : Int32).toInt = 1 from rfl, show (2 : Int32).toInt = 2 from rfl, show (3 : Int32).toInt = 3 from rfl, show (4 : Int32).toInt = 4 from rfl, show (5 : Int32).toInt = 5 from rfl, show (6 : Int32).toInt = 6 from rfl, show (7 : Int32).toInt = 7 from rfl, show (8 : Int32).toInt = 8 from rfl, show (9 : Int32).toInt = 9 from rfl, show (10 : Int32).toInt = 10 from rfl, show (11 : Int32).toInt = 11 from rfl, show (12 : Int32).toInt = 12 from rfl, show (13 : Int32).toInt = 13 from rfl, show (14 : Int32).toInt = 14 from rfl]
  omega
theorem ct_ar_pt {k : Int32} (h : 1 ≤ k.toInt ∧ k.toInt ≤ 14) : cp_g 15 am_pt 0 k = Int32.ofNat (ct_ar k) ∧ ct_ar k ≤ 3 := by
  rcases ct_kinds h with rfl | rfl | rfl | rfl | rfl | rfl | rfl | rfl | rfl | rfl | rfl | rfl | rfl | rfl
  all_goals exact ⟨by decide +kernel, by decide +kernel⟩
theorem cp_shz {X : am_Xs} {d y pc : Nat} {L : am_L} {st : List Value} {S : cm_S} {K : cm_K} (h : cm_At X d y pc L st S K) : cm_At X d y pc L st S (cm_sh K 0) := h.mono (fun r S2 k hk => by unfold cm_sh; rw [Nat.zero_add]; exact hk)
/-- trees one behind another -/
def ck_ts (S : cm_S) (a : Nat) : Nat → List ct_T → Prop
  | _, [] => True
  | q, t :: ts => ck_t S a q t ∧ ct_wf t ∧ ¬ t = .leaf ∧ ck_ts S a (q + ct_sz t) ts
def ct_szs : List ct_T → Nat
  | [] => 0
  | t :: ts => ct_sz t + ct_szs ts
theorem ck_ts_le {S : cm_S} {a : Nat} : ∀ {ts : List ct_T} {q : Nat}, ck_ts S a q ts → q ≤ cm_cap a → q + ct_szs ts ≤ cm_cap a
  | [], q, _, h => h
  | t :: ts, q, h, h2 => by
    have h3 := h.1.2.2
    have h4 := ck_ts_le h.2.2.2 (by omega)
    show q + (ct_sz t + ct_szs ts) ≤ cm_cap a
    omega
/-- the parts of a node that are there -/
def ct_pts (x y z : ct_T) (n : Nat) : List ct_T := [x, y, z].take n
theorem ct_pts_ok {S : cm_S} {a r : Nat} {e : ct_D} {x y z : ct_T} (hw : ct_wf (ct_nd e x y z)) (hx : ck_t S a (r + 1) x) (hy : ck_t S a (r + 1 + ct_sz x) y) (hz : ck_t S a (r + 1 + ct_sz x + ct_sz y) z) : ck_ts S a (r + 1) (ct_pts x y z (ct_ar e.1)) ∧ ct_szs (ct_pts x y z (ct_ar e.1)) = ct_sz x + (ct_sz y + ct_sz z) ∧ (ct_pts x y z (ct_ar e.1)).length = ct_ar e.1 := by
  obtain ⟨h1, h2, h3, h4, h5, h6, h7⟩ := ct_wf_nd hw
  have h8 := (ct_ar_pt h1).2
  generalize ct_ar e.1 = n at h2 h3 h4 h8
  rcases n with _ | _ | _ | _ | n
  · rw [h2.mpr (by omega), h3.mpr (by omega), h4.mpr (by omega)]; exact ⟨trivial, rfl, rfl⟩
  · rw [h3.mpr (by omega), h4.mpr (by omega)]
    exact ⟨⟨hx, h5, fun h => absurd (h2.mp h) (by omega), trivial⟩, rfl, rfl⟩
  · rw [h4.mpr (by omega)]
    exact ⟨⟨hx, h5, fun h => absurd (h2.mp h) (by omega), hy, h6, fun h => absurd (h3.mp h) (by omega), trivial⟩, rfl, rfl⟩
  · exact ⟨⟨hx, h5, fun h => absurd (h2.mp h) (by omega), hy, h6, fun h => absurd (h3.mp h) (by omega), hz, h7, fun h => absurd (h4.mp h) (by omega), trivial⟩, rfl, rfl⟩
  · omega
def cW_z (a lo hi b j : Nat) : Bool := decide (b = a + 5 ∧ lo ≤ j ∧ j < hi)
theorem cp_pm1 {p : Int32} : p + (-1) = p - 1 := by rw [Int32.sub_eq_add_neg]
theorem cp_s1 {n : Nat} : Int32.ofNat (n + 1) - 1 = Int32.ofNat n := by rw [show (1 : Int32) = Int32.ofNat 1 from rfl, cp_sb (by omega)]; rfl
/-- where an occurrence is within a LAMBDA -/
def ct_cw (x : Int32) : ct_T → Nat
  | .inner _ e _ a (.inner _ _ _ b c) => if e.1 = 4 then ct_cn x (ct_fl a ++ (ct_fl b ++ ct_fl c)) else ct_cw x a + (ct_cw x b + ct_cw x c)
  | _ => 0
theorem ct_cw_nd {x : Int32} {e : ct_D} {a b c : ct_T} : ct_cw x (ct_nd e a b c) = if e.1 = 4 then ct_cn x (ct_fl a ++ (ct_fl b ++ ct_fl c)) else ct_cw x a + (ct_cw x b + ct_cw x c) := rfl
theorem ct_cw_le {x : Int32} : ∀ t, ct_cw x t ≤ ct_cn x (ct_fl t)
  | .leaf => Nat.zero_le _
  | .inner _ _ _ _ .leaf => Nat.zero_le _
  | .inner _ e _ a (.inner _ _ _ b c) => by
    show (if e.1 = 4 then ct_cn x (ct_fl a ++ (ct_fl b ++ ct_fl c)) else ct_cw x a + (ct_cw x b + ct_cw x c)) ≤ (if e.1 = 2 ∧ e.2.2.1 = x then 1 else 0) + ct_cn x (ct_fl a ++ (ct_fl b ++ ct_fl c))
    have h1 := ct_cw_le (x := x) a
    have h2 := ct_cw_le (x := x) b
    have h3 := ct_cw_le (x := x) c
    rw [ct_cn_app, ct_cn_app]
    split <;> omega
/-- how many LAMBDAs a tree begins with, at most n of them -/
def ct_pd : Nat → ct_T → Nat
  | 0, _ => 0
  | n + 1, .inner _ e _ a (.inner _ _ _ _ _) => if e.1 = 4 then 1 + ct_pd n a else 0
  | _ + 1, _ => 0
theorem ct_pd_nd {n : Nat} {e : ct_D} {a b c : ct_T} : ct_pd (n + 1) (ct_nd e a b c) = if e.1 = 4 then 1 + ct_pd n a else 0 := rfl
/-- a print goes on with a node -/
def ct_ps (p : Int64) (e : ct_D) : Int64 := if e.1 = 2 then 31 * (31 * p + e.1.toInt64) + e.2.2.1.toInt64 else if e.1 = 1 ∨ e.1 = 3 ∨ e.1 = 9 ∨ e.1 = 14 then 31 * (31 * p + e.1.toInt64) + e.2.1 else 31 * p + e.1.toInt64
section CP35
variable {L : Nat} {xs : Nat → Int32} {d a : Nat} {p q : Int32}
theorem cp_22l (ha : a ∈ cm_codes) {r : Nat} {n : Nat} : ∀ (ts : List ct_T) (i q : Nat) (S : cm_S) (K : cm_K), ck_ts S a q ts → i + ts.length = n → n ≤ 3 → r < q → q ≤ cm_cap a → K (.inl none) (cm_wI S (a + 5) r (Int32.ofNat (q + ct_szs ts - r))) 0 →
    cm_At (am_XX L xs) (d + 2) 22 21 [some (.ref a), some (.int (Int32.ofNat r)), some (.int (Int32.ofNat q)), some (.int (Int32.ofNat n)), some (.int (Int32.ofNat i))] [] S K
  | [], i, q, S, K, h, hi, hn, hr, hq, k => by
    obtain ⟨ga, gl, gc⟩ := cp_aI ha
    simp only [List.length_nil] at hi
    refine cx_22_21 ha _ _ _ _ ⟨fun h => absurd h (by rw [cp_lt (by omega) (by omega)]; omega), fun _ => ?_⟩
    rw [cp_sb (by omega)]
    refine cp_167 ga.2.2 (cp_r0 ?_)
    rw [cp_w_at (by rw [gl.2.2]; omega) (by rw [gl.2.2]; omega)]
    exact k
  | t :: ts, i, q, S, K, h, hi, hn, hr, hq, k => by
    obtain ⟨ga, gl, gc⟩ := cp_aI ha
    simp only [List.length_cons] at hi
    refine cx_22_21 ha _ _ _ _ ⟨fun _ => ?_, fun h => absurd (by rw [cp_lt (by omega) (by omega)]; omega) h⟩
    refine cp_13t ha h.1 h.2.1 h.2.2.1 (cp_r1 ?_)
    rw [show (1 : Int32) = Int32.ofNat 1 from rfl, cp_ad]
    have h3 := h.1.2.2
    refine cp_22l ha ts (i + 1) (q + ct_sz t) S _ h.2.2.2 (by omega) hn (by omega) (by omega) ?_
    rw [show q + ct_szs (t :: ts) = q + ct_sz t + ct_szs ts by show q + (ct_sz t + ct_szs ts) = _; omega] at k
    exact k
theorem cp_22 (ha : a ∈ cm_codes) {r : Nat} {e : ct_D} {x y z : ct_T} {S : cm_S} {K : cm_K} (hw : ct_wf (ct_nd e x y z)) (he : cp_row S a r = e) (hr : r < cm_cap a) (hx : ck_t S a (r + 1) x) (hy : ck_t S a (r + 1 + ct_sz x) y) (hz : ck_t S a (r + 1 + ct_sz x + ct_sz y) z)
    (k : K (.inl none) (cm_wI S (a + 5) r (Int32.ofNat (ct_sz (ct_nd e x y z)))) 0) :
    cm_At (am_XX L xs) (d + 2) 22 0 [some (.ref a), some (.int (Int32.ofNat r)), none, none, none] [] S K := by
  obtain ⟨g1, g2, g3⟩ := ct_pts_ok hw hx hy hz
  have hk := (ct_wf_nd hw).1
  refine cx_22_0 ha _ ?_
  refine cp_14 ha (cp_r1 ?_)
  refine cp_8 ha (cp_r1 ?_)
  rw [cp_g_at hr (cp_cap ha), show S.1 (a + 1) r = e.1 by rw [← he]; rfl]
  refine cp_166p (cp_r1 ?_)
  rw [(ct_ar_pt hk).1, show (1 : Int32) = Int32.ofNat 1 from rfl, cp_ad]
  refine cp_22l ha _ 0 (r + 1) S _ g1 (by rw [g3]; omega) (ct_ar_pt hk).2 (by omega) (by omega) ?_
  rw [g2, show r + 1 + (ct_sz x + (ct_sz y + ct_sz z)) - r = ct_sz (ct_nd e x y z) by rw [ct_sz_nd]; omega]
  exact k
theorem cp_23t (ha : a ∈ cm_codes) {q1 : Int32} {K : cm_K} : ∀ t, ct_wf t → ∀ (r : Nat) (S : cm_S), ck_f S a r (ct_fl t) → r + ct_sz t ≤ cm_cap a → (∀ S2, ck_t S2 a r t → cf_W (cW_z a r (r + ct_sz t)) S S2 → cm_At (am_XX L xs) (d + 3) 23 4 [some (.ref a), some (.int q1), some (.int (Int32.ofNat r - 1))] [] S2 K) →
    cm_At (am_XX L xs) (d + 3) 23 4 [some (.ref a), some (.int q1), some (.int (Int32.ofNat (r + ct_sz t) - 1))] [] S K := by
  intro t hw
  obtain ⟨ga, gl, gc⟩ := cp_aI ha
  refine ct_ind (P := fun t => ∀ (r : Nat) (S : cm_S), ck_f S a r (ct_fl t) → r + ct_sz t ≤ cm_cap a → (∀ S2, ck_t S2 a r t → cf_W (cW_z a r (r + ct_sz t)) S S2 → cm_At (am_XX L xs) (d + 3) 23 4 [some (.ref a), some (.int q1), some (.int (Int32.ofNat r - 1))] [] S2 K) →
    cm_At (am_XX L xs) (d + 3) 23 4 [some (.ref a), some (.int q1), some (.int (Int32.ofNat (r + ct_sz t) - 1))] [] S K) ?_ ?_ t hw
  · intro r S _ hr k
    exact k S ⟨ck_f_nil, ck_z_nil, hr⟩ cf_rfl
  · intro e x y z hw ihx ihy ihz r S hf hr k
    rw [ct_fl_nd, ck_f_cons, ck_f_app, ck_f_app, ct_fl_len, ct_fl_len] at hf
    obtain ⟨f0, f1, f2, f3⟩ := hf
    rw [ct_sz_nd] at hr k ⊢
    have hd : ∀ {lo hi lo2 hi2 : Nat}, hi2 ≤ lo → ∀ b j, a + 1 ≤ b → b ≤ a + 5 → lo2 ≤ j → j < hi2 → cW_z a lo hi b j = false := fun h b j _ _ _ _ => decide_eq_false (by omega)
    have hd2 : ∀ {lo hi lo2 hi2 : Nat}, hi ≤ lo2 → ∀ b j, a + 1 ≤ b → b ≤ a + 5 → lo2 ≤ j → j < hi2 → cW_z a lo hi b j = false := fun h b j _ _ _ _ => decide_eq_false (by omega)
    rw [show r + (1 + (ct_sz x + (ct_sz y + ct_sz z))) = r + 1 + ct_sz x + ct_sz y + ct_sz z by omega]
    refine ihz (r + 1 + ct_sz x + ct_sz y) S f3 (by omega) (fun S3 t3 c3 => ?_)
    refine ihy (r + 1 + ct_sz x) S3 (ck_f_cf c3 (hd (by rw [ct_fl_len]; omega)) f2) (by omega) (fun S2 t2 c2 => ?_)
    refine ihx (r + 1) S2 (ck_f_cf (cf_tr (cf_mono c3 (W2 := cW_z a (r + 1 + ct_sz x) (r + 1 + ct_sz x + ct_sz y + ct_sz z)) (fun b j h => decide_eq_true (by have h := of_decide_eq_true h; omega))) (cf_mono c2 (fun b j h => decide_eq_true (by have h := of_decide_eq_true h; omega)))) (hd (by rw [ct_fl_len]; omega)) f1) (by omega) (fun S1 t1 c1 => ?_)
    have call : cf_W (cW_z a (r + 1) (r + (1 + (ct_sz x + (ct_sz y + ct_sz z))))) S S1 := cf_tr (cf_tr (cf_mono c3 (fun b j h => decide_eq_true (by have h := of_decide_eq_true h; omega))) (cf_mono c2 (fun b j h => decide_eq_true (by have h := of_decide_eq_true h; omega)))) (cf_mono c1 (fun b j h => decide_eq_true (by have h := of_decide_eq_true h; omega)))
    have hrow : cp_row S1 a r = e := by
      rw [← f0]
      have hw2 : ∀ b, cW_z a (r + 1) (r + (1 + (ct_sz x + (ct_sz y + ct_sz z)))) b r = false := fun b => decide_eq_false (by omega)
      unfold cp_row
      rw [(call _ _ (hw2 (a + 1))).1, (call _ _ (hw2 (a + 2))).1, (call _ _ (hw2 (a + 3))).1, (call _ _ (hw2 (a + 4))).2]
    have u2 := ck_t_cf c1 (hd2 (Nat.le_refl _)) t2
    have u3 := ck_t_cf (cf_tr (cf_mono c2 (W2 := cW_z a (r + 1) (r + 1 + ct_sz x + ct_sz y)) (fun b j h => decide_eq_true (by have h := of_decide_eq_true h; omega))) (cf_mono c1 (fun b j h => decide_eq_true (by have h := of_decide_eq_true h; omega)))) (hd2 (Nat.le_refl _)) t3
    rw [cp_s1]
    refine cx_23_4 ha _ _ ⟨fun h => absurd h (cp_nn (by omega)), fun _ => ?_⟩
    refine cp_22 ha hw hrow (by omega) t1 u2 u3 (cp_r0 ?_)
    rw [cp_pm1]
    refine cp_shz (k _ ?_ ?_)
    · have cl : cf_W (cW_z a r (r + 1)) S1 (cm_wI S1 (a + 5) r (Int32.ofNat (ct_sz (ct_nd e x y z)))) := cf_wI (decide_eq_true (by omega))
      rw [ck_t_nd]
      refine ⟨?_, by rw [cp_wI1, if_pos ⟨rfl, rfl⟩], by omega, ck_t_cf cl (hd2 (Nat.le_refl _)) t1, ck_t_cf cl (hd2 (by omega)) u2, ck_t_cf cl (hd2 (by omega)) u3⟩
      rw [← hrow]
      simp [cp_row, cp_wI1, cp_wI2]
    · exact cf_tr (cf_mono call (fun b j h => decide_eq_true (by have h := of_decide_eq_true h; omega))) (cf_wI (decide_eq_true (by omega)))
/-- all sizes are found -/
theorem cp_23 (ha : a ∈ cm_codes) {t : ct_T} {S : cm_S} {K : cm_K} (hw : ct_wf t) (hf : ck_f S a 0 (ct_fl t)) (hr : ct_sz t ≤ cm_cap a) (k : ∀ S2, ck_t S2 a 0 t → cf_W (cW_z a 0 (ct_sz t)) S S2 → K (.inl none) S2 0) :
    cm_At (am_XX L xs) (d + 3) 23 0 [some (.ref a), some (.int (Int32.ofNat (ct_sz t))), none] [] S K := by
  refine cx_23_0 ha _ ?_
  have h := cp_23t (L := L) (xs := xs) (d := d) ha (q1 := Int32.ofNat (ct_sz t)) (K := K) t hw 0 S hf (by omega) (fun S2 t2 c2 => cx_23_4 ha _ _ ⟨fun _ => k S2 t2 (by rw [Nat.zero_add] at c2; exact c2), fun h => absurd (by decide) h⟩)
  rw [Nat.zero_add] at h
  exact h
theorem cp_25l (ha : a ∈ cm_codes) {v q2 : Int32} {S : cm_S} : ∀ (l : List ct_D) (r n : Nat) (K : cm_K), ck_f S a r l → r + l.length ≤ cm_cap a → K (.inl (some (.int (Int32.ofNat (n + ct_cn v l))))) S 0 →
    cm_At (am_XX L xs) (d + 2) 25 12 [some (.ref a), some (.int v), some (.int q2), some (.int (Int32.ofNat (r + l.length))), some (.int (Int32.ofNat n)), some (.int (Int32.ofNat r))] [] S K
  | [], r, n, K, hf, hr, k => by
    have gc := (cp_aI ha).2.2
    exact cx_25_12 ha _ _ _ _ _ ⟨fun h => absurd h (by rw [List.length_nil, cp_lt (by rw [List.length_nil] at hr; omega) (by rw [List.length_nil] at hr; omega)]; omega), fun _ => k⟩
  | e :: l, r, n, K, hf, hr, k => by
    have gc := (cp_aI ha).2.2
    rw [ck_f_cons] at hf
    rw [List.length_cons] at hr ⊢
    have k2 : K (.inl (some (.int (Int32.ofNat (n + ((if e.1 = 2 ∧ e.2.2.1 = v then 1 else 0) + ct_cn v l)))))) S 0 := k
    have e1 : S.1 (a + 1) r = e.1 := by rw [← hf.1]; rfl
    have e2 : S.1 (a + 2) r = e.2.2.1 := by rw [← hf.1]; rfl
    refine cx_25_12 ha _ _ _ _ _ ⟨fun _ => ?_, fun h => absurd (by rw [cp_lt (by omega) (by omega)]; omega) h⟩
    rw [show (1 : Int32) = Int32.ofNat 1 from rfl, cp_ad, cp_ad, show r + (l.length + 1) = r + 1 + l.length by omega]
    refine cp_8 ha (cp_r1 ?_)
    rw [cp_g_at (by omega) (cp_cap ha), e1]
    refine ⟨fun h => ?_, fun h => ?_⟩
    · refine cp_9 ha (cp_r1 ?_)
      rw [cp_g_at (by omega) (cp_cap ha), e2]
      refine ⟨fun h2 => ?_, fun h2 => ?_⟩
      · rw [if_pos ⟨h, h2⟩, show n + (1 + ct_cn v l) = n + 1 + ct_cn v l by omega] at k2
        exact cp_25l ha l (r + 1) (n + 1) _ hf.2 (by omega) k2
      · rw [if_neg (fun hc => h2 hc.2), Nat.zero_add] at k2
        exact cp_25l ha l (r + 1) n _ hf.2 (by omega) k2
    · rw [if_neg (fun hc => h hc.1), Nat.zero_add] at k2
      exact cp_25l ha l (r + 1) n _ hf.2 (by omega) k2
/-- occurrences of a variable are counted -/
theorem cp_25 (ha : a ∈ cm_codes) {v : Int32} {S : cm_S} {K : cm_K} {r : Nat} {t : ct_T} (hw : ct_wf t) (hn : ¬ t = .leaf) (h : ck_t S a r t) (k : K (.inl (some (.int (Int32.ofNat (ct_cn v (ct_fl t)))))) S 0) :
    cm_At (am_XX L xs) (d + 2) 25 0 [some (.ref a), some (.int v), some (.int (Int32.ofNat r)), none, none, none] [] S K := by
  refine cx_25_0 ha _ _ ?_
  refine cp_13t ha h hw hn (cp_r1 ?_)
  rw [← ct_fl_len]
  refine cp_25l ha (ct_fl t) r 0 _ h.1 (by rw [ct_fl_len]; exact h.2.2) ?_
  rw [Nat.zero_add]
  exact k
theorem cp_26t (ha : a ∈ cm_codes) {v q2 : Int32} {S : cm_S} {en : Nat} (hen : en ≤ cm_cap a) {K : cm_K} : ∀ t, ct_wf t → ∀ (r : Nat), ck_t S a r t → r + ct_sz t ≤ en → (0 < ct_cw v t → K (.inl (some (.int 1))) S 0) → (ct_cw v t = 0 → cm_At (am_XX L xs) (d + 3) 26 9 [some (.ref a), some (.int v), some (.int q2), some (.int (Int32.ofNat en)), some (.int (Int32.ofNat (r + ct_sz t)))] [] S K) →
    cm_At (am_XX L xs) (d + 3) 26 9 [some (.ref a), some (.int v), some (.int q2), some (.int (Int32.ofNat en)), some (.int (Int32.ofNat r))] [] S K := by
  intro t hw
  have gc := (cp_aI ha).2.2
  refine ct_ind (P := fun t => ∀ (r : Nat), ck_t S a r t → r + ct_sz t ≤ en → (0 < ct_cw v t → K (.inl (some (.int 1))) S 0) → (ct_cw v t = 0 → cm_At (am_XX L xs) (d + 3) 26 9 [some (.ref a), some (.int v), some (.int q2), some (.int (Int32.ofNat en)), some (.int (Int32.ofNat (r + ct_sz t)))] [] S K) →
    cm_At (am_XX L xs) (d + 3) 26 9 [some (.ref a), some (.int v), some (.int q2), some (.int (Int32.ofNat en)), some (.int (Int32.ofNat r))] [] S K) ?_ ?_ t hw
  · intro r _ _ _ k
    exact k rfl
  · intro e x y z hw ihx ihy ihz r ht hr k1 k
    have hb := ht
    rw [ck_t_nd] at ht
    obtain ⟨t0, t1, t2, t3, t4, t5⟩ := ht
    rw [ct_sz_nd] at hr k
    have e1 : S.1 (a + 1) r = e.1 := by rw [← t0]; rfl
    have l1 := ct_cw_le (x := v) x
    have l2 := ct_cw_le (x := v) y
    have l3 := ct_cw_le (x := v) z
    have go : (0 < ct_cw v x + (ct_cw v y + ct_cw v z) → K (.inl (some (.int 1))) S 0) → (ct_cw v x + (ct_cw v y + ct_cw v z) = 0 → ct_cw v (ct_nd e x y z) = 0) → cm_At (am_XX L xs) (d + 3) 26 9 [some (.ref a), some (.int v), some (.int q2), some (.int (Int32.ofNat en)), some (.int (Int32.ofNat (r + 1)))] [] S K := by
      intro g1 g4
      refine ihx (r + 1) t3 (by omega) (fun h => g1 (by omega)) (fun c1 => ?_)
      refine ihy _ t4 (by omega) (fun h => g1 (by omega)) (fun c2 => ?_)
      refine ihz _ t5 (by omega) (fun h => g1 (by omega)) (fun c3 => ?_)
      rw [show r + 1 + ct_sz x + ct_sz y + ct_sz z = r + (1 + (ct_sz x + (ct_sz y + ct_sz z))) by omega]
      exact k (g4 (by omega))
    refine cx_26_9 ha _ _ _ _ ⟨fun _ => ?_, fun h => absurd (by rw [cp_lt (by omega) (by omega)]; omega) h⟩
    rw [show (1 : Int32) = Int32.ofNat 1 from rfl, cp_ad]
    refine cp_8 ha (cp_r1 ?_)
    rw [cp_g_at (by omega) (cp_cap ha), e1]
    refine ⟨fun h => ?_, fun h => ?_⟩
    · have h24 : ¬ e.1 = 2 := fun hc => by rw [h] at hc; exact absurd hc (by decide)
      have hcn : ct_cn v (ct_fl (ct_nd e x y z)) = ct_cw v (ct_nd e x y z) := by
        rw [ct_cw_nd, if_pos h, ct_fl_nd]
        show (if e.1 = 2 ∧ e.2.2.1 = v then 1 else 0) + ct_cn v (ct_fl x ++ (ct_fl y ++ ct_fl z)) = _
        rw [if_neg (fun hc => h24 hc.1), Nat.zero_add]
      have hcs : ct_cw v (ct_nd e x y z) = ct_cn v (ct_fl x) + (ct_cn v (ct_fl y) + ct_cn v (ct_fl z)) := by
        rw [ct_cw_nd, if_pos h, ct_cn_app, ct_cn_app]
      refine cp_25 ha hw (by intro h; cases h) hb (cp_r1 ?_)
      have hle := ct_cn_le (x := v) (ct_fl (ct_nd e x y z))
      rw [ct_fl_len, ct_sz_nd] at hle
      refine ⟨fun h2 => ⟨Or.inr rfl, k1 ?_⟩, fun h2 => cp_shz (cp_shz (go (fun h3 => k1 (by omega)) (fun _ => ?_)))⟩
      · rw [show (0 : Int32) = Int32.ofNat 0 from rfl, cp_lt (by omega) (by omega)] at h2
        omega
      · rw [show (0 : Int32) = Int32.ofNat 0 from rfl, cp_lt (by omega) (by omega)] at h2
        omega
    · have hcs : ct_cw v (ct_nd e x y z) = ct_cw v x + (ct_cw v y + ct_cw v z) := by rw [ct_cw_nd, if_neg h]
      exact cp_shz (go (fun h3 => k1 (by omega)) (fun h3 => by omega))
/-- whether a variable occurs within a LAMBDA -/
theorem cp_26 (ha : a ∈ cm_codes) {v : Int32} {S : cm_S} {K : cm_K} {r : Nat} {t : ct_T} (hw : ct_wf t) (hn : ¬ t = .leaf) (h : ck_t S a r t) (k : K (.inl (some (.int (if ct_cw v t = 0 then 0 else 1)))) S 0) :
    cm_At (am_XX L xs) (d + 3) 26 0 [some (.ref a), some (.int v), some (.int (Int32.ofNat r)), none, none] [] S K := by
  have gc := (cp_aI ha).2.2
  have h3 := h.2.2
  refine cx_26_0 ha _ _ ?_
  refine cp_13t ha h hw hn (cp_r1 ?_)
  refine cp_26t ha h3 t hw r h (Nat.le_refl _) (fun hc => ?_) (fun hc => ?_)
  · rw [if_neg (by omega)] at k
    exact k
  · rw [if_pos hc] at k
    exact cx_26_9 ha _ _ _ _ ⟨fun h => absurd h (by rw [cp_lt (by omega) (by omega)]; omega), fun _ => ⟨Or.inl rfl, k⟩⟩
def ct_hg (l : List ct_D) : Bool := l.any (fun e => decide (e.1 = 3))
theorem cp_27l (ha : a ∈ cm_codes) {q1 : Int32} {S : cm_S} : ∀ (l : List ct_D) (r : Nat) (K : cm_K), ck_f S a r l → r + l.length ≤ cm_cap a → K (.inl (some (.int (if ct_hg l then 1 else 0)))) S 0 →
    cm_At (am_XX L xs) (d + 2) 27 8 [some (.ref a), some (.int q1), some (.int (Int32.ofNat (r + l.length))), some (.int (Int32.ofNat r))] [] S K
  | [], r, K, hf, hr, k => by
    have gc := (cp_aI ha).2.2
    exact cx_27_8 ha _ _ _ ⟨fun h => absurd h (by rw [List.length_nil, cp_lt (by rw [List.length_nil] at hr; omega) (by rw [List.length_nil] at hr; omega)]; omega), fun _ => ⟨Or.inl rfl, k⟩⟩
  | e :: l, r, K, hf, hr, k => by
    have gc := (cp_aI ha).2.2
    rw [ck_f_cons] at hf
    rw [List.length_cons] at hr ⊢
    have e1 : S.1 (a + 1) r = e.1 := by rw [← hf.1]; rfl
    refine cx_27_8 ha _ _ _ ⟨fun _ => ?_, fun h => absurd (by rw [cp_lt (by omega) (by omega)]; omega) h⟩
    rw [show (1 : Int32) = Int32.ofNat 1 from rfl, cp_ad, show r + (l.length + 1) = r + 1 + l.length by omega]
    refine cp_8 ha (cp_r1 ?_)
    rw [cp_g_at (by omega) (cp_cap ha), e1]
    refine ⟨fun h => ⟨Or.inr rfl, ?_⟩, fun h => ?_⟩
    · rw [show ct_hg (e :: l) = true by unfold ct_hg; rw [List.any_cons, decide_eq_true h]; rfl] at k
      exact k
    · rw [show ct_hg (e :: l) = ct_hg l by unfold ct_hg; rw [List.any_cons, decide_eq_false h]; rfl] at k
      exact cp_27l ha l (r + 1) _ hf.2 (by omega) k
theorem cp_27 (ha : a ∈ cm_codes) {S : cm_S} {K : cm_K} {r : Nat} {t : ct_T} (hw : ct_wf t) (hn : ¬ t = .leaf) (h : ck_t S a r t) (k : K (.inl (some (.int (if ct_hg (ct_fl t) then 1 else 0)))) S 0) :
    cm_At (am_XX L xs) (d + 2) 27 0 [some (.ref a), some (.int (Int32.ofNat r)), none, none] [] S K := by
  refine cx_27_0 ha _ ?_
  refine cp_13t ha h hw hn (cp_r1 ?_)
  rw [← ct_fl_len]
  exact cp_27l ha (ct_fl t) r _ h.1 (by rw [ct_fl_len]; exact h.2.2) k
theorem cp_32l (ha : a ∈ cm_codes) {S : cm_S} {r : Nat} : ∀ (m n : Nat) (t : ct_T) (K : cm_K), n + m = 4 → ct_wf t → ¬ t = .leaf → ck_t S a (r + n) t → K (.inl (some (.int (Int32.ofNat (n + ct_pd m t))))) S 0 →
    cm_At (am_XX L xs) (d + 2) 32 2 [some (.ref a), some (.int (Int32.ofNat r)), some (.int (Int32.ofNat n))] [] S K
  | 0, n, t, K, hm, hw, hn, ht, k => by
    refine cx_32_2 ha _ _ ⟨fun h => absurd h ?_, fun _ => k⟩
    rw [show (4 : Int32) = Int32.ofNat 4 from rfl, cp_lt (by omega) (by omega)]; omega
  | m + 1, n, t, K, hm, hw, hn, ht, k => by
    have gc := (cp_aI ha).2.2
    revert hn ht k
    refine ct_ind (P := fun t => ¬ t = .leaf → ck_t S a (r + n) t → K (.inl (some (.int (Int32.ofNat (n + ct_pd (m + 1) t))))) S 0 → cm_At (am_XX L xs) (d + 2) 32 2 [some (.ref a), some (.int (Int32.ofNat r)), some (.int (Int32.ofNat n))] [] S K) (fun h => absurd rfl h) (fun e x y z hw _ _ _ _ ht k => ?_) t hw
    rw [ck_t_nd] at ht
    obtain ⟨t0, t1, t2, t3, t4, t5⟩ := ht
    rw [ct_pd_nd] at k
    have e1 : S.1 (a + 1) (r + n) = e.1 := by rw [← t0]; rfl
    refine cx_32_2 ha _ _ ⟨fun _ => ?_, fun h => absurd (by rw [show (4 : Int32) = Int32.ofNat 4 from rfl, cp_lt (by omega) (by omega)]; omega) h⟩
    rw [show (1 : Int32) = Int32.ofNat 1 from rfl, cp_ad, cp_ad]
    refine cp_8 ha (cp_r1 ?_)
    rw [cp_g_at (by omega) (cp_cap ha), e1]
    obtain ⟨w1, w2, w3, w4, w5, w6, w7⟩ := ct_wf_nd hw
    refine ⟨fun h => ?_, fun h => ?_⟩
    · rw [if_pos h, show n + (1 + ct_pd m x) = n + 1 + ct_pd m x by omega] at k
      refine cp_32l ha m (n + 1) x _ (by omega) w5 (fun hc => ?_) (by rw [show r + (n + 1) = r + n + 1 by omega]; exact t3) k
      have := w2.mp hc
      rw [h] at this
      exact absurd this (by decide +kernel)
    · rw [if_neg h] at k
      exact k
/-- how many parameters -/
theorem cp_32 (ha : a ∈ cm_codes) {S : cm_S} {K : cm_K} {r : Nat} {t : ct_T} (hw : ct_wf t) (hn : ¬ t = .leaf) (h : ck_t S a r t) (k : K (.inl (some (.int (Int32.ofNat (ct_pd 4 t))))) S 0) :
    cm_At (am_XX L xs) (d + 2) 32 0 [some (.ref a), some (.int (Int32.ofNat r)), none] [] S K := by
  refine cx_32_0 ha _ ?_
  refine cp_32l ha 4 0 t K rfl hw hn h ?_
  rw [Nat.zero_add]
  exact k
theorem cp_32z (ha : a ∈ cm_codes) {S : cm_S} {K : cm_K} (h : ¬ cp_g (cm_cap a) (S.1 (a + 1)) 0 p = 4) (k : K (.inl (some (.int 0))) S 0) : cm_At (am_XX L xs) (d + 2) 32 0 [some (.ref a), some (.int p), none] [] S K := by
  refine cx_32_0 ha _ ?_
  refine cx_32_2 ha _ _ ⟨fun _ => ?_, fun h => absurd (by decide) h⟩
  rw [Int32.add_zero]
  exact cp_8 ha (cp_r1 ⟨fun hc => absurd hc h, fun _ => k⟩)
def ct_pr (p : Int64) : List ct_D → Int64
  | [] => p
  | e :: l => ct_pr (ct_ps p e) l
theorem cp_33l (ha : a ∈ cm_codes) {q1 : Int32} {S : cm_S} : ∀ (l : List ct_D) (r : Nat) (p : Int64) (o6 : Option Value) (K : cm_K), ck_f S a r l → r + l.length ≤ cm_cap a → K (.inl (some (.long (ct_pr p l)))) S 0 →
    cm_At (am_XX L xs) (d + 2) 33 13 [some (.ref a), some (.int q1), some (.int (Int32.ofNat (r + l.length))), some (.long p), none, some (.int (Int32.ofNat r)), o6] [] S K
  | [], r, p, o6, K, hf, hr, k => by
    have gc := (cp_aI ha).2.2
    exact cx_33_13 ha _ _ _ _ _ ⟨fun h => absurd h (by rw [List.length_nil, cp_lt (by rw [List.length_nil] at hr; omega) (by rw [List.length_nil] at hr; omega)]; omega), fun _ => k⟩
  | e :: l, r, p, o6, K, hf, hr, k => by
    have gc := (cp_aI ha).2.2
    rw [ck_f_cons] at hf
    rw [List.length_cons] at hr ⊢
    have e1 : S.1 (a + 1) r = e.1 := by rw [← hf.1]; rfl
    have e2 : S.1 (a + 2) r = e.2.2.1 := by rw [← hf.1]; rfl
    have e3 : S.2 (a + 4) r = e.2.1 := by rw [← hf.1]; rfl
    have k2 : K (.inl (some (.long (ct_pr (ct_ps p e) l)))) S 0 := k
    unfold ct_ps at k2
    refine cx_33_13 ha _ _ _ _ _ ⟨fun _ => ?_, fun h => absurd (by rw [cp_lt (by omega) (by omega)]; omega) h⟩
    rw [show (1 : Int32) = Int32.ofNat 1 from rfl, cp_ad, show r + (l.length + 1) = r + 1 + l.length by omega]
    refine cp_8 ha (cp_r1 ?_)
    rw [cp_g_at (by omega) (cp_cap ha), e1]
    refine ⟨fun h => ?_, fun h => ⟨fun h1 => ?_, fun h1 => ⟨fun h2 => ?_, fun h2 => ⟨fun h3 => ?_, fun h3 => ⟨fun h4 => ?_, fun h4 => ?_⟩⟩⟩⟩⟩
    · refine cp_9 ha (cp_r1 ?_)
      rw [cp_g_at (by omega) (cp_cap ha), e2]
      rw [if_pos h] at k2
      exact cp_33l ha l (r + 1) _ _ _ hf.2 (by omega) k2
    all_goals rw [if_neg h] at k2
    · refine cp_11 ha (cp_r2 ?_)
      rw [cp_g_at (by omega) (cp_cap ha), e3]
      rw [if_pos (Or.inl (show e.1 = 1 from h1))] at k2
      exact cp_33l ha l (r + 1) _ _ _ hf.2 (by omega) k2
    · refine cp_11 ha (cp_r2 ?_)
      rw [cp_g_at (by omega) (cp_cap ha), e3]
      rw [if_pos (Or.inr (Or.inl h2))] at k2
      exact cp_33l ha l (r + 1) _ _ _ hf.2 (by omega) k2
    · refine cp_11 ha (cp_r2 ?_)
      rw [cp_g_at (by omega) (cp_cap ha), e3]
      rw [if_pos (Or.inr (Or.inr (Or.inl h3)))] at k2
      exact cp_33l ha l (r + 1) _ _ _ hf.2 (by omega) k2
    · refine cp_11 ha (cp_r2 ?_)
      rw [cp_g_at (by omega) (cp_cap ha), e3]
      rw [if_pos (Or.inr (Or.inr (Or.inr h4)))] at k2
      exact cp_33l ha l (r + 1) _ _ _ hf.2 (by omega) k2
    · rw [if_neg (fun hc => by rcases hc with hc | hc | hc | hc <;> first | exact h1 hc | exact h2 hc | exact h3 hc | exact h4 hc)] at k2
      exact cp_33l ha l (r + 1) _ _ _ hf.2 (by omega) k2
/-- the print of a core -/
theorem cp_33 (ha : a ∈ cm_codes) {S : cm_S} {K : cm_K} {r : Nat} {t : ct_T} (hw : ct_wf t) (hn : ¬ t = .leaf) (h : ck_t S a r t) (k : K (.inl (some (.long (ct_pr 9 (ct_fl t))))) S 0) :
    cm_At (am_XX L xs) (d + 2) 33 0 [some (.ref a), some (.int (Int32.ofNat r)), none, none, none, none, none] [] S K := by
  refine cx_33_0 ha _ ?_
  refine cp_13t ha h hw hn (cp_r1 ?_)
  rw [← ct_fl_len]
  exact cp_33l ha (ct_fl t) r 9 _ _ h.1 (by rw [ct_fl_len]; exact h.2.2) k
end CP35
