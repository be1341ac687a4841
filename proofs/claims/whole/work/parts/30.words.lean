/-! ## 30 words for numbers and memory; the small readers and writers of the class -/
theorem cp_tI {n : Nat} (h : n < 2147483648) : (Int32.ofNat n).toInt = (n : Int) := Int32.toInt_ofNat_of_lt (show n < 2 ^ 31 from h)
theorem cp_cl {n : Nat} (h : n < 2147483648) : (Int32.ofNat n).toNatClampNeg = n := Int32.toNatClampNeg_ofNat_of_lt (show n < 2 ^ 31 from h)
theorem cp_lt {a b : Nat} (ha : a < 2147483648) (hb : b < 2147483648) : (Int32.ofNat a < Int32.ofNat b) ↔ a < b := by
  rw [Int32.lt_iff_toInt_lt, cp_tI ha, cp_tI hb]; omega
theorem cp_inj {a b : Nat} (ha : a < 2147483648) (hb : b < 2147483648) : (Int32.ofNat a = Int32.ofNat b) ↔ a = b := by
  rw [← Int32.toInt_inj, cp_tI ha, cp_tI hb]; omega
theorem cp_nn {n : Nat} (h : n < 2147483648) : ¬ Int32.ofNat n < 0 := by
  rw [Int32.lt_iff_toInt_lt, cp_tI h, show (0 : Int32).toInt = 0 from rfl]; omega
theorem cp_m1 {n : Nat} (h : n < 2147483648) : ¬ Int32.ofNat n = -1 := by
  rw [← Int32.toInt_inj, cp_tI h, show (-1 : Int32).toInt = -1 from rfl]; omega
theorem cp_ad {a b : Nat} : Int32.ofNat a + Int32.ofNat b = Int32.ofNat (a + b) := (Int32.ofNat_add a b).symm
theorem cp_ml {a b : Nat} : Int32.ofNat a * Int32.ofNat b = Int32.ofNat (a * b) := (Int32.ofNat_mul a b).symm
theorem cp_sb {a b : Nat} (h : b ≤ a) : Int32.ofNat a - Int32.ofNat b = Int32.ofNat (a - b) := (Int32.ofNat_sub a b h).symm
theorem cp_lt0 {p : Int32} : p < 0 ↔ p.toInt < 0 := by rw [Int32.lt_iff_toInt_lt, show (0 : Int32).toInt = 0 from rfl]
theorem cp_ltn {p : Int32} {n : Nat} (h : n < 2147483648) : p < Int32.ofNat n ↔ p.toInt < (n : Int) := by rw [Int32.lt_iff_toInt_lt, cp_tI h]
theorem cp_of {p : Int32} (h : 0 ≤ p.toInt) : ∃ i : Nat, p = Int32.ofNat i ∧ (i : Int) = p.toInt ∧ i < 2147483648 := by
  have h2 : p.toInt < 2147483648 := p.toInt_lt
  refine ⟨p.toInt.toNat, ?_, by omega, by omega⟩
  rw [← Int32.toInt_inj, cp_tI (by omega)]
  omega
theorem cp_in {i n : Nat} (h : i < n) (hn : n < 2147483648) : am_in (Int32.ofNat i) n := by
  unfold am_in
  rw [cp_cl (by omega)]
  intro hc
  rcases hc with hc | hc
  · exact cp_nn (by omega) hc
  · omega
theorem cp_wI1 {S : cm_S} {a k b j : Nat} {x : Int32} : (cm_wI S a k x).1 b j = if b = a ∧ j = k then x else S.1 b j := by
  by_cases hb : b = a
  · subst hb
    rw [cm_wI_at]
    unfold upd
    by_cases hj : j = k
    · rw [if_pos hj, if_pos ⟨rfl, hj⟩]
    · rw [if_neg hj, if_neg (fun h => hj h.2)]
  · rw [cm_wI_ne hb, if_neg (fun h => hb h.1)]
theorem cp_wI2 {S : cm_S} {a k : Nat} {x : Int32} : (cm_wI S a k x).2 = S.2 := rfl
theorem cp_wJ2 {S : cm_S} {a k b j : Nat} {x : Int64} : (cm_wJ S a k x).2 b j = if b = a ∧ j = k then x else S.2 b j := by
  by_cases hb : b = a
  · subst hb
    rw [cm_wJ_at]
    unfold vp_updL
    by_cases hj : j = k
    · rw [if_pos hj, if_pos ⟨rfl, hj⟩]
    · rw [if_neg hj, if_neg (fun h => hj h.2)]
  · rw [cm_wJ_ne hb, if_neg (fun h => hb h.1)]
theorem cp_wJ1 {S : cm_S} {a k : Nat} {x : Int64} : (cm_wJ S a k x).1 = S.1 := rfl
theorem cp_r0 {A : Prop} {E : Nat → Prop} (h : A) : cm_r0 A E (.inl none) := h
theorem cp_r1 {A : Int32 → Prop} {E : Nat → Prop} {x : Int32} (h : A x) : cm_r1 A E (.inl (some (.int x))) := h
theorem cp_r2 {A : Int64 → Prop} {E : Nat → Prop} {x : Int64} (h : A x) : cm_r2 A E (.inl (some (.long x))) := h
theorem cp_x0 {A : Prop} {E : Nat → Prop} {e : Nat} (h : E e) : cm_r0 A E (.inr e) := h
theorem cp_x1 {A : Int32 → Prop} {E : Nat → Prop} {e : Nat} (h : E e) : cm_r1 A E (.inr e) := h
theorem cp_x2 {A : Int64 → Prop} {E : Nat → Prop} {e : Nat} (h : E e) : cm_r2 A E (.inr e) := h
/-- what is read at a place that is looked at first -/
def cp_g {α : Type} (n : Nat) (f : Nat → α) (z : α) (p : Int32) : α := if 0 ≤ p.toInt ∧ p.toInt < (n : Int) then f p.toInt.toNat else z
theorem cp_g_lo {α : Type} {n : Nat} {f : Nat → α} {z : α} {p : Int32} (h : p < 0) : cp_g n f z p = z := by
  unfold cp_g
  rw [if_neg (by rw [cp_lt0] at h; omega)]
theorem cp_g_hi {α : Type} {n : Nat} {f : Nat → α} {z : α} {p : Int32} (hn : n < 2147483648) (h : ¬ p < Int32.ofNat n) : cp_g n f z p = z := by
  unfold cp_g
  rw [if_neg (by rw [cp_ltn hn] at h; omega)]
theorem cp_g_ok {α : Type} {n : Nat} {f : Nat → α} {z : α} {p : Int32} (hn : n < 2147483648) (h1 : ¬ p < 0) (h2 : p < Int32.ofNat n) : f p.toNatClampNeg = cp_g n f z p := by
  unfold cp_g
  rw [cp_lt0] at h1
  rw [cp_ltn hn] at h2
  rw [if_pos (by omega)]
  rfl
theorem cp_g_am {n : Nat} {p : Int32} (hn : n < 2147483648) (h1 : ¬ p < 0) (h2 : p < Int32.ofNat n) : am_in p n := by
  rw [cp_lt0] at h1
  rw [cp_ltn hn] at h2
  obtain ⟨i, rfl, hi, hi2⟩ := cp_of (p := p) (by omega)
  exact cp_in (by omega) hn
theorem cp_g_at {α : Type} {n i : Nat} {f : Nat → α} {z : α} (h : i < n) (hn : n < 2147483648) : cp_g n f z (Int32.ofNat i) = f i := by
  unfold cp_g
  rw [cp_tI (by omega), if_pos (by omega)]
  rfl
theorem cp_g_out {α : Type} {n i : Nat} {f : Nat → α} {z : α} (h : n ≤ i) (hi : i < 2147483648) : cp_g n f z (Int32.ofNat i) = z := by
  unfold cp_g
  rw [cp_tI hi, if_neg (by omega)]
theorem cp_g_m1 {α : Type} {n : Nat} {f : Nat → α} {z : α} : cp_g n f z (-1) = z := cp_g_lo (by decide)
/-- what is written at a place that is looked at first -/
def cp_w (S : cm_S) (a n : Nat) (p x : Int32) : cm_S := if 0 ≤ p.toInt ∧ p.toInt < (n : Int) then cm_wI S a p.toInt.toNat x else S
def cp_wL (S : cm_S) (a n : Nat) (p : Int32) (x : Int64) : cm_S := if 0 ≤ p.toInt ∧ p.toInt < (n : Int) then cm_wJ S a p.toInt.toNat x else S
theorem cp_w_at {S : cm_S} {a n i : Nat} {x : Int32} (h : i < n) (hn : n < 2147483648) : cp_w S a n (Int32.ofNat i) x = cm_wI S a i x := by
  unfold cp_w
  rw [cp_tI (by omega), if_pos (by omega)]
  rfl
theorem cp_w_out {S : cm_S} {a n i : Nat} {x : Int32} (h : n ≤ i) (hi : i < 2147483648) : cp_w S a n (Int32.ofNat i) x = S := by
  unfold cp_w
  rw [cp_tI hi, if_neg (by omega)]
theorem cp_wL_at {S : cm_S} {a n i : Nat} {x : Int64} (h : i < n) (hn : n < 2147483648) : cp_wL S a n (Int32.ofNat i) x = cm_wJ S a i x := by
  unfold cp_wL
  rw [cp_tI (by omega), if_pos (by omega)]
  rfl
theorem cp_cap {a : Nat} (ha : a ∈ cm_codes) : cm_cap a < 2147483648 := by
  simp only [cm_codes, List.mem_cons, List.not_mem_nil, or_false] at ha
  rcases ha with rfl | rfl | rfl | rfl | rfl | rfl | rfl | rfl
  all_goals decide +kernel
theorem cp_rl {a : Nat} (ha : a ∈ cm_rI ∨ a ∈ cm_rJ) : cm_rl a < 2147483648 := by
  have h : (cm_rI ++ cm_rJ).all (fun a => decide (cm_rl a < 2147483648)) = true := by decide +kernel
  exact of_decide_eq_true (List.all_eq_true.mp h a (List.mem_append.mpr ha))
set_option maxRecDepth 100000 in
theorem cy_166p {P : cm_P} {L : Nat} {xs : Nat → Int32} {d : Nat} {S : cm_S} {K : cm_K} (p1 : Int32) (h : (p1 < 0 → (K (.inl (some (.int (0 : Int32)))) S 0)) ∧ (¬ p1 < 0 → ((p1 < (Int32.ofNat 15) → (am_in p1 15 ∧ ∀ x1, x1 = am_pt p1.toNatClampNeg → (K (.inl (some (.int x1))) S 0))) ∧ (¬ p1 < (Int32.ofNat 15) → (K (.inl (some (.int (0 : Int32)))) S 0))))) : cm_st P (am_XX L xs) d cb_166 [] (cm_go P (am_XX L xs) d 166 cb_166 [] [] 400) 0 [some (.ref 1000001), some (.int p1)] [] S K := h
set_option maxRecDepth 100000 in
theorem cx_166p {L : Nat} {xs : Nat → Int32} {d : Nat} {S : cm_S} {K : cm_K} (p1 : Int32) (h : (p1 < 0 → (K (.inl (some (.int (0 : Int32)))) S 0)) ∧ (¬ p1 < 0 → ((p1 < (Int32.ofNat 15) → (am_in p1 15 ∧ ∀ x1, x1 = am_pt p1.toNatClampNeg → (K (.inl (some (.int x1))) S 0))) ∧ (¬ p1 < (Int32.ofNat 15) → (K (.inl (some (.int (0 : Int32)))) S 0))))) : cm_At (am_XX L xs) (d + 1) 166 0 [some (.ref 1000001), some (.int p1)] [] S K := cm_go1 (show am_TT 166 = some (am_B166, 2, []) from rfl) cb_166_ok (cy_166p (P := cm_At (am_XX L xs)) p1 h)
section CP30
variable {L : Nat} {xs : Nat → Int32} {d a : Nat} {S : cm_S} {K : cm_K} {p : Int32}
theorem cp_8 (ha : a ∈ cm_codes) (k : K (.inl (some (.int (cp_g (cm_cap a) (S.1 (a + 1)) 0 p)))) S 0) : cm_At (am_XX L xs) (d + 1) 8 0 [some (.ref a), some (.int p)] [] S K := by
  refine cx_8_0 ha p ⟨fun h => ?_, fun h => ⟨fun h2 => ⟨cp_g_am (cp_cap ha) h h2, ?_⟩, fun h2 => ?_⟩⟩
  · rw [cp_g_lo h] at k; exact k
  · rintro _ rfl; rw [← cp_g_ok (cp_cap ha) h h2] at k; exact k
  · rw [cp_g_hi (cp_cap ha) h2] at k; exact k
theorem cp_9 (ha : a ∈ cm_codes) (k : K (.inl (some (.int (cp_g (cm_cap a) (S.1 (a + 2)) (-1) p)))) S 0) : cm_At (am_XX L xs) (d + 1) 9 0 [some (.ref a), some (.int p)] [] S K := by
  refine cx_9_0 ha p ⟨fun h => ?_, fun h => ⟨fun h2 => ⟨cp_g_am (cp_cap ha) h h2, ?_⟩, fun h2 => ?_⟩⟩
  · rw [cp_g_lo h] at k; exact k
  · rintro _ rfl; rw [← cp_g_ok (cp_cap ha) h h2] at k; exact k
  · rw [cp_g_hi (cp_cap ha) h2] at k; exact k
theorem cp_10 (ha : a ∈ cm_codes) (k : K (.inl (some (.int (cp_g (cm_cap a) (S.1 (a + 3)) (-1) p)))) S 0) : cm_At (am_XX L xs) (d + 1) 10 0 [some (.ref a), some (.int p)] [] S K := by
  refine cx_10_0 ha p ⟨fun h => ?_, fun h => ⟨fun h2 => ⟨cp_g_am (cp_cap ha) h h2, ?_⟩, fun h2 => ?_⟩⟩
  · rw [cp_g_lo h] at k; exact k
  · rintro _ rfl; rw [← cp_g_ok (cp_cap ha) h h2] at k; exact k
  · rw [cp_g_hi (cp_cap ha) h2] at k; exact k
theorem cp_11 (ha : a ∈ cm_codes) (k : K (.inl (some (.long (cp_g (cm_cap a) (S.2 (a + 4)) 0 p)))) S 0) : cm_At (am_XX L xs) (d + 1) 11 0 [some (.ref a), some (.int p)] [] S K := by
  refine cx_11_0 ha p ⟨fun h => ?_, fun h => ⟨fun h2 => ⟨cp_g_am (cp_cap ha) h h2, ?_⟩, fun h2 => ?_⟩⟩
  · rw [cp_g_lo h] at k; exact k
  · rintro _ rfl; rw [← cp_g_ok (cp_cap ha) h h2] at k; exact k
  · rw [cp_g_hi (cp_cap ha) h2] at k; exact k
theorem cp_12 (ha : a ∈ cm_codes) (k : K (.inl (some (.int (cp_g (cm_cap a) (S.1 (a + 5)) 0 p)))) S 0) : cm_At (am_XX L xs) (d + 1) 12 0 [some (.ref a), some (.int p)] [] S K := by
  refine cx_12_0 ha p ⟨fun h => ?_, fun h => ⟨fun h2 => ⟨cp_g_am (cp_cap ha) h h2, ?_⟩, fun h2 => ?_⟩⟩
  · rw [cp_g_lo h] at k; exact k
  · rintro _ rfl; rw [← cp_g_ok (cp_cap ha) h h2] at k; exact k
  · rw [cp_g_hi (cp_cap ha) h2] at k; exact k
theorem cp_13 (ha : a ∈ cm_codes) (k : K (.inl (some (.int (p + cp_g (cm_cap a) (S.1 (a + 5)) 0 p)))) S 0) : cm_At (am_XX L xs) (d + 1) 13 0 [some (.ref a), some (.int p)] [] S K := by
  refine cx_13_0 ha p ⟨fun h => ?_, fun h => ⟨fun h2 => ⟨cp_g_am (cp_cap ha) h h2, ?_⟩, fun h2 => ?_⟩⟩
  · rw [cp_g_lo h, Int32.add_zero] at k; exact k
  · rintro _ rfl; rw [← cp_g_ok (cp_cap ha) h h2] at k; exact k
  · rw [cp_g_hi (cp_cap ha) h2, Int32.add_zero] at k; exact k
theorem cp_166 (ha : a ∈ cm_rI) (k : K (.inl (some (.int (cp_g (cm_rl a) (S.1 a) 0 p)))) S 0) : cm_At (am_XX L xs) (d + 1) 166 0 [some (.ref a), some (.int p)] [] S K := by
  refine cx_166_0 ha p ⟨fun h => ?_, fun h => ⟨fun h2 => ⟨cp_g_am (cp_rl (Or.inl ha)) h h2, ?_⟩, fun h2 => ?_⟩⟩
  · rw [cp_g_lo h] at k; exact k
  · rintro _ rfl; rw [← cp_g_ok (cp_rl (Or.inl ha)) h h2] at k; exact k
  · rw [cp_g_hi (cp_rl (Or.inl ha)) h2] at k; exact k
theorem cp_168 (ha : a ∈ cm_rJ) (k : K (.inl (some (.long (cp_g (cm_rl a) (S.2 a) 0 p)))) S 0) : cm_At (am_XX L xs) (d + 1) 168 0 [some (.ref a), some (.int p)] [] S K := by
  refine cx_168_0 ha p ⟨fun h => ?_, fun h => ⟨fun h2 => ⟨cp_g_am (cp_rl (Or.inr ha)) h h2, ?_⟩, fun h2 => ?_⟩⟩
  · rw [cp_g_lo h] at k; exact k
  · rintro _ rfl; rw [← cp_g_ok (cp_rl (Or.inr ha)) h h2] at k; exact k
  · rw [cp_g_hi (cp_rl (Or.inr ha)) h2] at k; exact k
theorem cp_w_eq {n : Nat} {x : Int32} (hn : n < 2147483648) (h1 : ¬ p < 0) (h2 : p < Int32.ofNat n) : cm_wI S a p.toNatClampNeg x = cp_w S a n p x := by
  rw [cp_lt0] at h1
  rw [cp_ltn hn] at h2
  unfold cp_w
  rw [if_pos (by omega)]
  rfl
theorem cp_w_lo {n : Nat} {x : Int32} (h : p < 0) : cp_w S a n p x = S := by
  unfold cp_w
  rw [if_neg (by rw [cp_lt0] at h; omega)]
theorem cp_w_hi {n : Nat} {x : Int32} (hn : n < 2147483648) (h : ¬ p < Int32.ofNat n) : cp_w S a n p x = S := by
  unfold cp_w
  rw [if_neg (by rw [cp_ltn hn] at h; omega)]
theorem cp_167 (ha : a ∈ cm_rI) {x : Int32} (k : K (.inl none) (cp_w S a (cm_rl a) p x) 0) : cm_At (am_XX L xs) (d + 1) 167 0 [some (.ref a), some (.int p), some (.int x)] [] S K := by
  refine cx_167_0 ha p x ⟨fun h => ?_, fun h => ⟨fun h2 => ⟨cp_g_am (cp_rl (Or.inl ha)) h h2, ?_⟩, fun h2 => ?_⟩⟩
  · rw [cp_w_lo h] at k; exact k
  · rintro _ rfl; rw [← cp_w_eq (cp_rl (Or.inl ha)) h h2] at k; exact k
  · rw [cp_w_hi (cp_rl (Or.inl ha)) h2] at k; exact k
theorem cp_169 (ha : a ∈ cm_rJ) {x : Int64} (k : K (.inl none) (cp_wL S a (cm_rl a) p x) 0) : cm_At (am_XX L xs) (d + 1) 169 0 [some (.ref a), some (.int p), some (.long x), none] [] S K := by
  refine cx_169_0 ha p x ⟨fun h => ?_, fun h => ⟨fun h2 => ⟨cp_g_am (cp_rl (Or.inr ha)) h h2, ?_⟩, fun h2 => ?_⟩⟩
  · unfold cp_wL at k; rw [if_neg (by rw [cp_lt0] at h; omega)] at k; exact k
  · rintro _ rfl
    unfold cp_wL at k
    rw [if_pos (by rw [cp_lt0] at h; rw [cp_ltn (cp_rl (Or.inr ha))] at h2; omega)] at k
    exact k
  · unfold cp_wL at k; rw [if_neg (by rw [cp_ltn (cp_rl (Or.inr ha))] at h2; omega)] at k; exact k
theorem cp_166p (k : K (.inl (some (.int (cp_g 15 am_pt 0 p)))) S 0) : cm_At (am_XX L xs) (d + 1) 166 0 [some (.ref 1000001), some (.int p)] [] S K := by
  refine cx_166p p ⟨fun h => ?_, fun h => ⟨fun h2 => ⟨cp_g_am (by decide) h h2, ?_⟩, fun h2 => ?_⟩⟩
  · rw [cp_g_lo h] at k; exact k
  · rintro _ rfl; rw [← cp_g_ok (by decide) h h2] at k; exact k
  · rw [cp_g_hi (by decide) h2] at k; exact k
theorem cp_14 (ha : a ∈ cm_codes) (k : K (.inl (some (.int (p + 1)))) S 0) : cm_At (am_XX L xs) (d + 1) 14 0 [some (.ref a), some (.int p)] [] S K := cx_14_0 ha p k
/-- a node put, its place looked at first -/
def cp_put (S : cm_S) (a : Nat) (p k v w : Int32) (n : Int64) : cm_S := if 0 ≤ p.toInt ∧ p.toInt < (cm_cap a : Int) then cm_wI (cm_wJ (cm_wI (cm_wI (cm_wI S (a + 1) p.toInt.toNat k) (a + 2) p.toInt.toNat v) (a + 3) p.toInt.toNat w) (a + 4) p.toInt.toNat n) (a + 5) p.toInt.toNat 1 else S
theorem cp_19 (ha : a ∈ cm_codes) {kd v w : Int32} {n : Int64} (k : K (.inl none) (cp_put S a p kd v w n) 0) : cm_At (am_XX L xs) (d + 1) 19 0 [some (.ref a), some (.int p), some (.int kd), some (.int v), some (.int w), some (.long n), none, none] [] S K := by
  have hc := cp_cap ha
  unfold cp_put at k
  by_cases h1 : p < 0
  · rw [if_neg (by rw [cp_lt0] at h1; omega)] at k
    exact cx_19_0 ha p kd v w n ⟨fun _ => ⟨fun _ => k, fun h => absurd rfl h⟩, fun h => absurd h1 h⟩
  · by_cases h2 : p < Int32.ofNat (cm_cap a)
    · rw [if_pos (by rw [cp_lt0] at h1; rw [cp_ltn hc] at h2; omega)] at k
      refine cx_19_0 ha p kd v w n ⟨fun h => absurd h h1, fun _ => ⟨fun _ => ⟨fun _ => ⟨fun _ => ⟨fun _ => ⟨fun _ => ⟨fun h => absurd h (by decide), fun _ => ?_⟩, fun h => absurd h2 h⟩, fun h => absurd h2 h⟩, fun h => absurd h2 h⟩, fun h => absurd h2 h⟩, fun h => absurd h2 h⟩⟩
      refine ⟨cp_g_am hc h1 h2, ?_⟩; rintro _ rfl
      refine ⟨cp_g_am hc h1 h2, ?_⟩; rintro _ rfl
      refine ⟨cp_g_am hc h1 h2, ?_⟩; rintro _ rfl
      refine ⟨cp_g_am hc h1 h2, ?_⟩; rintro _ rfl
      refine ⟨cp_g_am hc h1 h2, ?_⟩; rintro _ rfl
      exact k
    · rw [if_neg (by rw [cp_ltn hc] at h2; omega)] at k
      exact cx_19_0 ha p kd v w n ⟨fun h => absurd h h1, fun _ => ⟨fun h => absurd h h2, fun _ => ⟨fun _ => k, fun h => absurd rfl h⟩⟩⟩
end CP30
