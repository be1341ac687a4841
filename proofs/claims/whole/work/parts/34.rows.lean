/-! ## 34 what the methods of Code do to rows and trees -/
def cW_c (a lo hi b j : Nat) : Bool := decide (a + 1 ≤ b ∧ b ≤ a + 5 ∧ lo ≤ j ∧ j < hi)
theorem cp_aI {a : Nat} (ha : a ∈ cm_codes) : (a + 2 ∈ cm_rI ∧ a + 3 ∈ cm_rI ∧ a + 5 ∈ cm_rI) ∧ (cm_rl (a + 2) = cm_cap a ∧ cm_rl (a + 3) = cm_cap a ∧ cm_rl (a + 5) = cm_cap a) ∧ cm_cap a ≤ 8192 := by
  have h : cm_codes.all (fun a => decide ((a + 2 ∈ cm_rI ∧ a + 3 ∈ cm_rI ∧ a + 5 ∈ cm_rI) ∧ (cm_rl (a + 2) = cm_cap a ∧ cm_rl (a + 3) = cm_cap a ∧ cm_rl (a + 5) = cm_cap a) ∧ cm_cap a ≤ 8192)) = true := by decide +kernel
  exact of_decide_eq_true (List.all_eq_true.mp h a ha)
theorem cp_ac {a c : Nat} (ha : a ∈ cm_codes) (hc : c ∈ cm_codes) (hne : ¬ a = c) : a + 5 < c + 1 ∨ c + 5 < a + 1 := by
  have h : cm_codes.all (fun a => cm_codes.all (fun c => decide (a = c ∨ a + 5 < c + 1 ∨ c + 5 < a + 1))) = true := by decide +kernel
  have h2 := of_decide_eq_true (List.all_eq_true.mp (List.all_eq_true.mp h a ha) c hc)
  omega
theorem cp_c7 {a : Nat} (ha : a ∈ cm_code7) : a ∈ cm_codes := by
  have h : cm_code7.all (fun a => decide (a ∈ cm_codes)) = true := by decide +kernel
  exact of_decide_eq_true (List.all_eq_true.mp h a ha)
def cp_gr (S : cm_S) (c : Nat) (p : Int32) : ct_D := (cp_g (cm_cap c) (S.1 (c + 1)) 0 p, cp_g (cm_cap c) (S.2 (c + 4)) 0 p, cp_g (cm_cap c) (S.1 (c + 2)) (-1) p, cp_g (cm_cap c) (S.1 (c + 3)) (-1) p)
theorem cp_gr_at {S : cm_S} {c i : Nat} (hc : c ∈ cm_codes) (h : i < cm_cap c) : cp_gr S c (Int32.ofNat i) = cp_row S c i := by
  have h2 := cp_cap hc
  unfold cp_gr cp_row
  rw [cp_g_at h h2, cp_g_at h h2, cp_g_at h h2, cp_g_at h h2]
def cp_putD (S : cm_S) (a : Nat) (p : Int32) (e : ct_D) : cm_S := cp_put S a p e.1 e.2.2.1 e.2.2.2 e.2.1
theorem cp_putD_row {S : cm_S} {a i j : Nat} {e : ct_D} (h : i < cm_cap a) (h2 : i < 2147483648) : cp_row (cp_putD S a (Int32.ofNat i) e) a j = if j = i then e else cp_row S a j := by
  unfold cp_putD
  rw [cp_put_at h h2]
  unfold cp_row
  by_cases hj : j = i
  · subst hj
    simp [cp_wI1, cp_wI2, cp_wJ1, cp_wJ2]
  · simp [cp_wI1, cp_wI2, cp_wJ1, cp_wJ2, hj]
theorem cp_putD_sz {S : cm_S} {a i j : Nat} {e : ct_D} (h : i < cm_cap a) (h2 : i < 2147483648) : (cp_putD S a (Int32.ofNat i) e).1 (a + 5) j = if j = i then 1 else S.1 (a + 5) j := by
  unfold cp_putD
  rw [cp_put_at h h2]
  by_cases hj : j = i
  · subst hj
    simp [cp_wI1, cp_wI2, cp_wJ1, cp_wJ2]
  · simp [cp_wI1, cp_wI2, cp_wJ1, cp_wJ2, hj]
theorem cp_putD_cf {S : cm_S} {a i : Nat} {e : ct_D} {W : Nat → Nat → Bool} (hw : ∀ b, a + 1 ≤ b → b ≤ a + 5 → W b i = true) (h2 : i < 2147483648) : cf_W W S (cp_putD S a (Int32.ofNat i) e) := by
  unfold cp_putD
  by_cases h : i < cm_cap a
  · rw [cp_put_at h h2]
    exact cf_tr (cf_tr (cf_tr (cf_tr (cf_wI (hw _ (by omega) (by omega))) (cf_wI (hw _ (by omega) (by omega)))) (cf_wI (hw _ (by omega) (by omega)))) (cf_wJ (hw _ (by omega) (by omega)))) (cf_wI (hw _ (by omega) (by omega)))
  · unfold cp_put
    rw [cp_tI h2, if_neg (by omega)]
    exact cf_rfl
theorem ck_f_cf {W : Nat → Nat → Bool} {S S2 : cm_S} {c r : Nat} {l : List ct_D} (h : cf_W W S S2) (hd : ∀ b j, c + 1 ≤ b → b ≤ c + 5 → r ≤ j → j < r + l.length → W b j = false) (hk : ck_f S c r l) : ck_f S2 c r l := by
  intro i e he
  have hi : i < l.length := (List.getElem?_eq_some_iff.mp he).1
  rw [← hk i e he]
  unfold cp_row
  rw [(h _ _ (hd (c + 1) (r + i) (by omega) (by omega) (by omega) (by omega))).1, (h _ _ (hd (c + 2) (r + i) (by omega) (by omega) (by omega) (by omega))).1, (h _ _ (hd (c + 3) (r + i) (by omega) (by omega) (by omega) (by omega))).1, (h _ _ (hd (c + 4) (r + i) (by omega) (by omega) (by omega) (by omega))).2]
theorem ck_z_cf {W : Nat → Nat → Bool} {S S2 : cm_S} {c r : Nat} {l : List Nat} (h : cf_W W S S2) (hd : ∀ b j, c + 1 ≤ b → b ≤ c + 5 → r ≤ j → j < r + l.length → W b j = false) (hk : ck_z S c r l) : ck_z S2 c r l := by
  intro i e he
  have hi : i < l.length := (List.getElem?_eq_some_iff.mp he).1
  rw [← hk i e he]
  exact (h _ _ (hd (c + 5) (r + i) (by omega) (by omega) (by omega) (by omega))).1
theorem ck_t_cf {W : Nat → Nat → Bool} {S S2 : cm_S} {c r : Nat} {t : ct_T} (h : cf_W W S S2) (hd : ∀ b j, c + 1 ≤ b → b ≤ c + 5 → r ≤ j → j < r + ct_sz t → W b j = false) (hk : ck_t S c r t) : ck_t S2 c r t :=
  ⟨ck_f_cf h (by rw [ct_fl_len]; exact hd) hk.1, ck_z_cf h (by rw [ct_ss_len]; exact hd) hk.2.1, hk.2.2⟩
theorem cp_sz {S : cm_S} {a r : Nat} {t : ct_T} (ha : a ∈ cm_codes) (h : ck_t S a r t) (hw : ct_wf t) (hne : ¬ t = .leaf) : cp_g (cm_cap a) (S.1 (a + 5)) 0 (Int32.ofNat r) = Int32.ofNat (ct_sz t) := by
  revert h hne
  refine ct_ind (P := fun t => ck_t S a r t → ¬ t = .leaf → cp_g (cm_cap a) (S.1 (a + 5)) 0 (Int32.ofNat r) = Int32.ofNat (ct_sz t)) (fun _ h => absurd rfl h) (fun e x y z hw _ _ _ h _ => ?_) t hw
  rw [ck_t_nd] at h
  rw [cp_g_at h.2.2.1 (cp_cap ha)]
  exact h.2.1
theorem cp_rw {S : cm_S} {a r : Nat} {e : ct_D} {x y z : ct_T} (ha : a ∈ cm_codes) (h : ck_t S a r (ct_nd e x y z)) : cp_gr S a (Int32.ofNat r) = e := by
  rw [ck_t_nd] at h
  rw [cp_gr_at ha h.2.2.1]
  exact h.1
/-- how often a variable occurs -/
def ct_cn (x : Int32) : List ct_D → Nat
  | [] => 0
  | e :: l => (if e.1 = 2 ∧ e.2.2.1 = x then 1 else 0) + ct_cn x l
theorem ct_cn_app {x : Int32} {l2 : List ct_D} : ∀ l, ct_cn x (l ++ l2) = ct_cn x l + ct_cn x l2
  | [] => by rw [List.nil_append]; unfold ct_cn; omega
  | e :: l => by
    rw [List.cons_append]
    show (if e.1 = 2 ∧ e.2.2.1 = x then 1 else 0) + ct_cn x (l ++ l2) = (if e.1 = 2 ∧ e.2.2.1 = x then 1 else 0) + ct_cn x l + ct_cn x l2
    rw [ct_cn_app l]; omega
theorem ct_cn_le {x : Int32} : ∀ l, ct_cn x l ≤ l.length
  | [] => Nat.le_refl _
  | e :: l => by
    have h := ct_cn_le (x := x) l
    show (if e.1 = 2 ∧ e.2.2.1 = x then 1 else 0) + ct_cn x l ≤ l.length + 1
    split <;> omega
section CP34
variable {L : Nat} {xs : Nat → Int32} {d a c : Nat} {p q : Int32}
theorem cp_13t {S : cm_S} {K : cm_K} {r : Nat} {t : ct_T} (ha : a ∈ cm_codes) (h : ck_t S a r t) (hw : ct_wf t) (hne : ¬ t = .leaf) (k : K (.inl (some (.int (Int32.ofNat (r + ct_sz t))))) S 0) : cm_At (am_XX L xs) (d + 1) 13 0 [some (.ref a), some (.int (Int32.ofNat r))] [] S K := by
  refine cp_13 ha ?_
  rw [cp_sz ha h hw hne, cp_ad]
  exact k
theorem cp_20 {S : cm_S} {K : cm_K} (ha : a ∈ cm_codes) (hc : c ∈ cm_codes) (k : K (.inl none) (cp_putD S a p (cp_gr S c q)) 0) : cm_At (am_XX L xs) (d + 2) 20 0 [some (.ref a), some (.int p), some (.ref c), some (.int q)] [] S K := by
  refine cx_20_0 ha hc p q ?_
  refine cp_8 hc (cp_r1 ?_)
  refine cp_9 hc (cp_r1 ?_)
  refine cp_10 hc (cp_r1 ?_)
  refine cp_11 hc (cp_r2 ?_)
  refine cp_19 ha (cp_r0 ?_)
  exact k
theorem cp_21l (ha : a ∈ cm_codes) (hc : c ∈ cm_codes) (hne : ¬ a = c) {r s : Nat} : ∀ (l : List ct_D) (z : List Nat) (i : Nat) (S : cm_S) (K : cm_K), l.length = z.length → ck_f S c (s + i) l → ck_z S c (s + i) z → r + i + l.length ≤ cm_cap a → s + i + l.length ≤ cm_cap c →
    (∀ S2, ck_f S2 a (r + i) l → ck_z S2 a (r + i) z → cf_W (cW_c a (r + i) (r + i + l.length)) S S2 → K (.inl none) S2 0) →
    cm_At (am_XX L xs) (d + 3) 21 10 [some (.ref a), some (.int (Int32.ofNat r)), some (.ref c), some (.int (Int32.ofNat s)), some (.int (Int32.ofNat (i + l.length))), some (.int (Int32.ofNat i))] [] S K
  | [], z, i, S, K, hl, hf, hz, h1, h2, k => by
    obtain ⟨ga, gl, gc⟩ := cp_aI ha
    refine cx_21_10 ha hc _ _ _ _ ⟨fun h => absurd h ?_, fun _ => ?_⟩
    · rw [cp_lt (by rw [List.length_nil] at *; omega) (by omega)]; simp
    · have hz0 : z = [] := List.length_eq_zero_iff.mp hl.symm
      subst hz0
      exact k S ck_f_nil ck_z_nil cf_rfl
  | e :: l, [], i, S, K, hl, hf, hz, h1, h2, k => by simp at hl
  | e :: l, n :: z, i, S, K, hl, hf, hz, h1, h2, k => by
    obtain ⟨ga, gl, gc⟩ := cp_aI ha
    have gc2 := (cp_aI hc).2.2
    have hac := cp_ac ha hc hne
    simp only [List.length_cons] at hl h1 h2 k
    rw [ck_f_cons] at hf
    rw [ck_z_cons] at hz
    refine cx_21_10 ha hc _ _ _ _ ⟨fun _ => ?_, fun h => absurd ?_ h⟩
    · rw [cp_ad, cp_ad]
      refine cp_20 ha hc (cp_r0 ?_)
      rw [cp_gr_at hc (by omega), hf.1]
      have c1 : cf_W (cW_c a (r + i) (r + (i + 1))) S (cp_putD S a (Int32.ofNat (r + i)) e) := cp_putD_cf (fun b q1 q2 => decide_eq_true (by omega)) (by omega)
      have dj : ∀ {hi : Nat} b j, c + 1 ≤ b → b ≤ c + 5 → cW_c a (r + i) hi b j = false := fun b j q1 q2 => decide_eq_false (by omega)
      refine cp_12 hc (cp_r1 ?_)
      rw [cp_g_at (show s + i < cm_cap c by omega) (by omega), (c1 (c + 5) (s + i) (dj _ _ (by omega) (by omega))).1, hz.1]
      refine cp_167 ga.2.2 (cp_r0 ?_)
      rw [cp_w_at (by rw [gl.2.2]; omega) (by rw [gl.2.2]; omega)]
      have c2 : cf_W (cW_c a (r + i) (r + (i + 1))) S (cm_wI (cp_putD S a (Int32.ofNat (r + i)) e) (a + 5) (r + i) (Int32.ofNat n)) := cf_tr c1 (cf_wI (decide_eq_true (by omega)))
      rw [show (1 : Int32) = Int32.ofNat 1 from rfl, cp_ad, List.length_cons, show i + (l.length + 1) = i + 1 + l.length by omega]
      refine cp_21l ha hc hne l z (i + 1) _ _ (by omega) ?_ ?_ (by omega) (by omega) ?_
      · exact ck_f_cf c2 (fun b j q1 q2 _ _ => dj b j q1 q2) (by rw [show s + (i + 1) = s + i + 1 by omega]; exact hf.2)
      · exact ck_z_cf c2 (fun b j q1 q2 _ _ => dj b j q1 q2) (by rw [show s + (i + 1) = s + i + 1 by omega]; exact hz.2)
      · intro S2 g1 g2 g3
        refine k S2 ?_ ?_ ?_
        · rw [ck_f_cons]
          refine ⟨?_, by rw [show r + i + 1 = r + (i + 1) by omega]; exact g1⟩
          have hx : cp_row S2 a (r + i) = cp_row (cp_putD S a (Int32.ofNat (r + i)) e) a (r + i) := by
            have hw : ∀ b, cW_c a (r + (i + 1)) (r + (i + 1) + l.length) b (r + i) = false := fun b => decide_eq_false (by omega)
            unfold cp_row
            rw [(g3 _ _ (hw (a + 1))).1, (g3 _ _ (hw (a + 2))).1, (g3 _ _ (hw (a + 3))).1, (g3 _ _ (hw (a + 4))).2]
            simp [cp_wI1, cp_wI2]
          rw [hx, cp_putD_row (by omega) (by omega), if_pos rfl]
        · rw [ck_z_cons]
          refine ⟨?_, by rw [show r + i + 1 = r + (i + 1) by omega]; exact g2⟩
          rw [(g3 (a + 5) (r + i) (decide_eq_false (by omega))).1, cp_wI1, if_pos ⟨rfl, rfl⟩]
        · refine cf_tr (cf_mono c2 (fun b j h => decide_eq_true ?_)) (cf_mono g3 (fun b j h => decide_eq_true ?_))
          · have h := of_decide_eq_true h; omega
          · have h := of_decide_eq_true h; omega
    · rw [cp_lt (by omega) (by rw [List.length_cons]; omega), List.length_cons]; omega
/-- a tree is taken over -/
theorem cp_21 {S : cm_S} {K : cm_K} (ha : a ∈ cm_codes) (hc : c ∈ cm_codes) (hne : ¬ a = c) {r s : Nat} {t : ct_T} (hw : ct_wf t) (hn : ¬ t = .leaf) (h : ck_t S c s t) (hr : r + ct_sz t ≤ cm_cap a)
    (k : ∀ S2, ck_t S2 a r t → cf_W (cW_c a r (r + ct_sz t)) S S2 → K (.inl none) S2 0) :
    cm_At (am_XX L xs) (d + 3) 21 0 [some (.ref a), some (.int (Int32.ofNat r)), some (.ref c), some (.int (Int32.ofNat s)), none, none] [] S K := by
  refine cx_21_0 ha hc _ _ ?_
  refine cp_12 hc (cp_r1 ?_)
  rw [cp_sz hc h hw hn]
  have h2 := cp_21l (L := L) (xs := xs) (d := d) ha hc hne (r := r) (s := s) (ct_fl t) (ct_ss t) 0 S (cm_sh K 0) (by rw [ct_fl_len, ct_ss_len]) h.1 h.2.1 (by rw [ct_fl_len]; exact hr) (by rw [ct_fl_len]; exact h.2.2) (fun S2 g1 g2 g3 => k S2 ⟨g1, g2, hr⟩ (by rw [ct_fl_len] at g3; exact g3))
  rw [ct_fl_len, Nat.zero_add] at h2
  exact h2
/-- nothing is taken over where there is nothing -/
theorem cp_21z {S : cm_S} {K : cm_K} (ha : a ∈ cm_codes) (hc : c ∈ cm_codes) (h : cp_g (cm_cap c) (S.1 (c + 5)) 0 q = 0) (k : K (.inl none) S 0) : cm_At (am_XX L xs) (d + 3) 21 0 [some (.ref a), some (.int p), some (.ref c), some (.int q), none, none] [] S K := by
  refine cx_21_0 ha hc _ _ ?_
  refine cp_12 hc (cp_r1 ?_)
  rw [h]
  exact cx_21_10 ha hc _ _ _ _ ⟨fun h => absurd h (by decide), fun _ => k⟩
end CP34
