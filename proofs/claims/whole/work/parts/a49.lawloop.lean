/-! ## a49 the law's loop -/
section CPa49
variable {L : Nat} {xs : Nat → Int32} {N : List ct_E} {T U : Nat → ct_T} {R : List (Int32 × Int32 × Int32 × Int32)} {c n : Nat} {S : cm_S} {K : cm_K} {o5 o6 : Option Value}
theorem cw_uz {X : am_Xs} {d y pc : Nat} {l : am_L} {st : List Value} (h : cm_At X d y pc l st S (cm_sh K 0)) : cm_At X d y pc l st S K := h.mono (fun r S2 k hk => by
  unfold cm_sh at hk
  rw [Nat.zero_add] at hk
  exact hk)
/-- what holds between the turns -/
def cw_I (c : Nat) (S : cm_S) : Prop := ∃ (N : List ct_E) (T U : Nat → ct_T) (R : List (Int32 × Int32 × Int32 × Int32)) (c2 : Nat), c2 ≤ c ∧ cr_b N T U R c2 S ∧ (∀ q, q ∈ R → ct_rok q) ∧ cr_mr S
theorem cw_nm : ∀ b j, (57 ≤ b ∧ b ≤ 79 ∨ b = 83 ∧ 40 ≤ j ∧ j ≤ 71 ∧ ¬ j = 70 ∨ 92 ≤ b ∧ b ≤ 98 ∧ 2400 ≤ j ∧ j < 3600 ∨ 114 ≤ b ∧ b ≤ 129) → (cW_n b j || cW_m b j) = false := fun b j h => by
  unfold cW_n cW_m
  rw [decide_eq_false (by omega), decide_eq_false (by omega)]
  rfl
theorem cw_number (hI : cw_I c S) (hc : c + 200008 < 2000000000) (hL5 : n + 5 ≤ L) (hL2 : L < 2147483648) (go : ∀ S2 e p5 p6, e ≤ 1 → cw_I (c + 200008) S2 → cm_At (am_XX L xs) 1000 300 1907 [some (.ref 1000000), some (.ref 0), some (.ref 83), some (.ref 132), some (.int (Int32.ofNat n)), p5, p6, none] [] S2 (cm_sh K e)) : cm_At (am_XX L xs) 1000 300 164 [some (.ref 1000000), some (.ref 0), some (.ref 83), some (.ref 132), some (.int (Int32.ofNat n)), o5, o6, none] [] S K := by
  obtain ⟨N, T, U, R, c2, hc2, hb, hR, hmr⟩ := hI
  have w5 : ∀ S2, cf_W (fun b j => decide (b = 132 ∨ b = 83 ∧ j = 75)) S S2 → cw_I (c + 200008) S2 := fun S2 hf => ⟨N, T, U, R, c2, by omega, cr_b_f2 hf (fun b j h => by have h := of_decide_eq_true h; omega) hb, hR, cr_mr_c7 hf (fun b j h => decide_eq_false (by omega)) hmr⟩
  exact cr_number (d := 993) hb hL5 hL2 (fun S2 N2 e q5 q6 he hb2 hf => go S2 e _ _ he ⟨N2, T, U, R, c2, by omega, hb2, hR, cr_mr_c7 hf cw_nm hmr⟩)
theorem cw_variable (hI : cw_I c S) (hc : c + 200008 < 2000000000) (hL5 : n + 5 ≤ L) (hL2 : L < 2147483648) (go : ∀ S2 e p5 p6, e ≤ 1 → cw_I (c + 200008) S2 → cm_At (am_XX L xs) 1000 300 1907 [some (.ref 1000000), some (.ref 0), some (.ref 83), some (.ref 132), some (.int (Int32.ofNat n)), p5, p6, none] [] S2 (cm_sh K e)) : cm_At (am_XX L xs) 1000 300 252 [some (.ref 1000000), some (.ref 0), some (.ref 83), some (.ref 132), some (.int (Int32.ofNat n)), o5, o6, none] [] S K := by
  obtain ⟨N, T, U, R, c2, hc2, hb, hR, hmr⟩ := hI
  have w5 : ∀ S2, cf_W (fun b j => decide (b = 132 ∨ b = 83 ∧ j = 75)) S S2 → cw_I (c + 200008) S2 := fun S2 hf => ⟨N, T, U, R, c2, by omega, cr_b_f2 hf (fun b j h => by have h := of_decide_eq_true h; omega) hb, hR, cr_mr_c7 hf (fun b j h => decide_eq_false (by omega)) hmr⟩
  exact cr_variable (d := 993) hb hL5 hL2 (fun S2 N2 e q5 q6 he hb2 hf => go S2 e _ _ he ⟨N2, T, U, R, c2, by omega, hb2, hR, cr_mr_c7 hf cw_nm hmr⟩)
theorem cw_global (hI : cw_I c S) (hc : c + 200008 < 2000000000) (hL5 : n + 5 ≤ L) (hL2 : L < 2147483648) (go : ∀ S2 e p5 p6, e ≤ 1 → cw_I (c + 200008) S2 → cm_At (am_XX L xs) 1000 300 1907 [some (.ref 1000000), some (.ref 0), some (.ref 83), some (.ref 132), some (.int (Int32.ofNat n)), p5, p6, none] [] S2 (cm_sh K e)) : cm_At (am_XX L xs) 1000 300 308 [some (.ref 1000000), some (.ref 0), some (.ref 83), some (.ref 132), some (.int (Int32.ofNat n)), o5, o6, none] [] S K := by
  obtain ⟨N, T, U, R, c2, hc2, hb, hR, hmr⟩ := hI
  have w5 : ∀ S2, cf_W (fun b j => decide (b = 132 ∨ b = 83 ∧ j = 75)) S S2 → cw_I (c + 200008) S2 := fun S2 hf => ⟨N, T, U, R, c2, by omega, cr_b_f2 hf (fun b j h => by have h := of_decide_eq_true h; omega) hb, hR, cr_mr_c7 hf (fun b j h => decide_eq_false (by omega)) hmr⟩
  exact cr_global (d := 993) hb hL5 hL2 (fun S2 N2 e q5 q6 he hb2 hf => go S2 e _ _ he ⟨N2, T, U, R, c2, by omega, hb2, hR, cr_mr_c7 hf cw_nm hmr⟩)
theorem cw_lambda (hI : cw_I c S) (hc : c + 200008 < 2000000000) (hL5 : n + 5 ≤ L) (hL2 : L < 2147483648) (go : ∀ S2 e p5 p6, e ≤ 1 → cw_I (c + 200008) S2 → cm_At (am_XX L xs) 1000 300 1907 [some (.ref 1000000), some (.ref 0), some (.ref 83), some (.ref 132), some (.int (Int32.ofNat n)), p5, p6, none] [] S2 (cm_sh K e)) : cm_At (am_XX L xs) 1000 300 364 [some (.ref 1000000), some (.ref 0), some (.ref 83), some (.ref 132), some (.int (Int32.ofNat n)), o5, o6, none] [] S K := by
  obtain ⟨N, T, U, R, c2, hc2, hb, hR, hmr⟩ := hI
  have w5 : ∀ S2, cf_W (fun b j => decide (b = 132 ∨ b = 83 ∧ j = 75)) S S2 → cw_I (c + 200008) S2 := fun S2 hf => ⟨N, T, U, R, c2, by omega, cr_b_f2 hf (fun b j h => by have h := of_decide_eq_true h; omega) hb, hR, cr_mr_c7 hf (fun b j h => decide_eq_false (by omega)) hmr⟩
  exact cr_lambda (d := 993) hb hL5 hL2 (fun S2 N2 e q5 q6 he hb2 hf => go S2 e _ _ he ⟨N2, T, U, R, c2, by omega, hb2, hR, cr_mr_c7 hf cw_nm hmr⟩)
theorem cw_apply (hI : cw_I c S) (hc : c + 200008 < 2000000000) (hL5 : n + 5 ≤ L) (hL2 : L < 2147483648) (go : ∀ S2 e p5 p6, e ≤ 1 → cw_I (c + 200008) S2 → cm_At (am_XX L xs) 1000 300 1907 [some (.ref 1000000), some (.ref 0), some (.ref 83), some (.ref 132), some (.int (Int32.ofNat n)), p5, p6, none] [] S2 (cm_sh K e)) : cm_At (am_XX L xs) 1000 300 432 [some (.ref 1000000), some (.ref 0), some (.ref 83), some (.ref 132), some (.int (Int32.ofNat n)), o5, o6, none] [] S K := by
  obtain ⟨N, T, U, R, c2, hc2, hb, hR, hmr⟩ := hI
  have w5 : ∀ S2, cf_W (fun b j => decide (b = 132 ∨ b = 83 ∧ j = 75)) S S2 → cw_I (c + 200008) S2 := fun S2 hf => ⟨N, T, U, R, c2, by omega, cr_b_f2 hf (fun b j h => by have h := of_decide_eq_true h; omega) hb, hR, cr_mr_c7 hf (fun b j h => decide_eq_false (by omega)) hmr⟩
  exact cr_apply (d := 993) hb hL5 hL2 (fun S2 N2 e q5 q6 he hb2 hf => go S2 e _ _ he ⟨N2, T, U, R, c2, by omega, hb2, hR, cr_mr_c7 hf cw_nm hmr⟩)
theorem cw_let (hI : cw_I c S) (hc : c + 200008 < 2000000000) (hL5 : n + 5 ≤ L) (hL2 : L < 2147483648) (go : ∀ S2 e p5 p6, e ≤ 1 → cw_I (c + 200008) S2 → cm_At (am_XX L xs) 1000 300 1907 [some (.ref 1000000), some (.ref 0), some (.ref 83), some (.ref 132), some (.int (Int32.ofNat n)), p5, p6, none] [] S2 (cm_sh K e)) : cm_At (am_XX L xs) 1000 300 500 [some (.ref 1000000), some (.ref 0), some (.ref 83), some (.ref 132), some (.int (Int32.ofNat n)), o5, o6, none] [] S K := by
  obtain ⟨N, T, U, R, c2, hc2, hb, hR, hmr⟩ := hI
  have w5 : ∀ S2, cf_W (fun b j => decide (b = 132 ∨ b = 83 ∧ j = 75)) S S2 → cw_I (c + 200008) S2 := fun S2 hf => ⟨N, T, U, R, c2, by omega, cr_b_f2 hf (fun b j h => by have h := of_decide_eq_true h; omega) hb, hR, cr_mr_c7 hf (fun b j h => decide_eq_false (by omega)) hmr⟩
  exact cr_let (d := 993) hb hL5 hL2 (fun S2 N2 e q5 q6 he hb2 hf => go S2 e _ _ he ⟨N2, T, U, R, c2, by omega, hb2, hR, cr_mr_c7 hf cw_nm hmr⟩)
theorem cw_primitive (hI : cw_I c S) (hc : c + 200008 < 2000000000) (hL5 : n + 5 ≤ L) (hL2 : L < 2147483648) (go : ∀ S2 e p5 p6, e ≤ 1 → cw_I (c + 200008) S2 → cm_At (am_XX L xs) 1000 300 1907 [some (.ref 1000000), some (.ref 0), some (.ref 83), some (.ref 132), some (.int (Int32.ofNat n)), p5, p6, none] [] S2 (cm_sh K e)) : cm_At (am_XX L xs) 1000 300 608 [some (.ref 1000000), some (.ref 0), some (.ref 83), some (.ref 132), some (.int (Int32.ofNat n)), o5, o6, none] [] S K := by
  obtain ⟨N, T, U, R, c2, hc2, hb, hR, hmr⟩ := hI
  have w5 : ∀ S2, cf_W (fun b j => decide (b = 132 ∨ b = 83 ∧ j = 75)) S S2 → cw_I (c + 200008) S2 := fun S2 hf => ⟨N, T, U, R, c2, by omega, cr_b_f2 hf (fun b j h => by have h := of_decide_eq_true h; omega) hb, hR, cr_mr_c7 hf (fun b j h => decide_eq_false (by omega)) hmr⟩
  exact cr_primitive (d := 993) hb hL5 hL2 (fun S2 N2 e q5 q6 he hb2 hf => go S2 e _ _ he ⟨N2, T, U, R, c2, by omega, hb2, hR, cr_mr_c7 hf cw_nm hmr⟩)
theorem cw_nil (hI : cw_I c S) (hc : c + 200008 < 2000000000) (hL5 : n + 5 ≤ L) (hL2 : L < 2147483648) (go : ∀ S2 e p5 p6, e ≤ 1 → cw_I (c + 200008) S2 → cm_At (am_XX L xs) 1000 300 1907 [some (.ref 1000000), some (.ref 0), some (.ref 83), some (.ref 132), some (.int (Int32.ofNat n)), p5, p6, none] [] S2 (cm_sh K e)) : cm_At (am_XX L xs) 1000 300 688 [some (.ref 1000000), some (.ref 0), some (.ref 83), some (.ref 132), some (.int (Int32.ofNat n)), o5, o6, none] [] S K := by
  obtain ⟨N, T, U, R, c2, hc2, hb, hR, hmr⟩ := hI
  have w5 : ∀ S2, cf_W (fun b j => decide (b = 132 ∨ b = 83 ∧ j = 75)) S S2 → cw_I (c + 200008) S2 := fun S2 hf => ⟨N, T, U, R, c2, by omega, cr_b_f2 hf (fun b j h => by have h := of_decide_eq_true h; omega) hb, hR, cr_mr_c7 hf (fun b j h => decide_eq_false (by omega)) hmr⟩
  exact cr_nil (d := 993) hb hL5 hL2 (fun S2 N2 e q5 q6 he hb2 hf => go S2 e _ _ he ⟨N2, T, U, R, c2, by omega, hb2, hR, cr_mr_c7 hf cw_nm hmr⟩)
theorem cw_cons (hI : cw_I c S) (hc : c + 200008 < 2000000000) (hL5 : n + 5 ≤ L) (hL2 : L < 2147483648) (go : ∀ S2 e p5 p6, e ≤ 1 → cw_I (c + 200008) S2 → cm_At (am_XX L xs) 1000 300 1907 [some (.ref 1000000), some (.ref 0), some (.ref 83), some (.ref 132), some (.int (Int32.ofNat n)), p5, p6, none] [] S2 (cm_sh K e)) : cm_At (am_XX L xs) 1000 300 732 [some (.ref 1000000), some (.ref 0), some (.ref 83), some (.ref 132), some (.int (Int32.ofNat n)), o5, o6, none] [] S K := by
  obtain ⟨N, T, U, R, c2, hc2, hb, hR, hmr⟩ := hI
  have w5 : ∀ S2, cf_W (fun b j => decide (b = 132 ∨ b = 83 ∧ j = 75)) S S2 → cw_I (c + 200008) S2 := fun S2 hf => ⟨N, T, U, R, c2, by omega, cr_b_f2 hf (fun b j h => by have h := of_decide_eq_true h; omega) hb, hR, cr_mr_c7 hf (fun b j h => decide_eq_false (by omega)) hmr⟩
  exact cr_cons (d := 993) hb hL5 hL2 (fun S2 N2 e q5 q6 he hb2 hf => go S2 e _ _ he ⟨N2, T, U, R, c2, by omega, hb2, hR, cr_mr_c7 hf cw_nm hmr⟩)
theorem cw_match (hI : cw_I c S) (hc : c + 200008 < 2000000000) (hL5 : n + 5 ≤ L) (hL2 : L < 2147483648) (go : ∀ S2 e p5 p6, e ≤ 1 → cw_I (c + 200008) S2 → cm_At (am_XX L xs) 1000 300 1907 [some (.ref 1000000), some (.ref 0), some (.ref 83), some (.ref 132), some (.int (Int32.ofNat n)), p5, p6, none] [] S2 (cm_sh K e)) : cm_At (am_XX L xs) 1000 300 800 [some (.ref 1000000), some (.ref 0), some (.ref 83), some (.ref 132), some (.int (Int32.ofNat n)), o5, o6, none] [] S K := by
  obtain ⟨N, T, U, R, c2, hc2, hb, hR, hmr⟩ := hI
  have w5 : ∀ S2, cf_W (fun b j => decide (b = 132 ∨ b = 83 ∧ j = 75)) S S2 → cw_I (c + 200008) S2 := fun S2 hf => ⟨N, T, U, R, c2, by omega, cr_b_f2 hf (fun b j h => by have h := of_decide_eq_true h; omega) hb, hR, cr_mr_c7 hf (fun b j h => decide_eq_false (by omega)) hmr⟩
  exact cr_match (d := 993) hb hL5 hL2 (fun S2 N2 e q5 q6 he hb2 hf => go S2 e _ _ he ⟨N2, T, U, R, c2, by omega, hb2, hR, cr_mr_c7 hf cw_nm hmr⟩)
theorem cw_test (hI : cw_I c S) (hc : c + 200008 < 2000000000) (hL5 : n + 5 ≤ L) (hL2 : L < 2147483648) (go : ∀ S2 e p5 p6, e ≤ 1 → cw_I (c + 200008) S2 → cm_At (am_XX L xs) 1000 300 1907 [some (.ref 1000000), some (.ref 0), some (.ref 83), some (.ref 132), some (.int (Int32.ofNat n)), p5, p6, none] [] S2 (cm_sh K e)) : cm_At (am_XX L xs) 1000 300 892 [some (.ref 1000000), some (.ref 0), some (.ref 83), some (.ref 132), some (.int (Int32.ofNat n)), o5, o6, none] [] S K := by
  obtain ⟨N, T, U, R, c2, hc2, hb, hR, hmr⟩ := hI
  have w5 : ∀ S2, cf_W (fun b j => decide (b = 132 ∨ b = 83 ∧ j = 75)) S S2 → cw_I (c + 200008) S2 := fun S2 hf => ⟨N, T, U, R, c2, by omega, cr_b_f2 hf (fun b j h => by have h := of_decide_eq_true h; omega) hb, hR, cr_mr_c7 hf (fun b j h => decide_eq_false (by omega)) hmr⟩
  exact cr_test (d := 993) hb hL5 hL2 (fun S2 N2 e q5 q6 he hb2 hf => go S2 e _ _ he ⟨N2, T, U, R, c2, by omega, hb2, hR, cr_mr_c7 hf cw_nm hmr⟩)
theorem cw_centre (hI : cw_I c S) (hc : c + 200008 < 2000000000) (hL5 : n + 5 ≤ L) (hL2 : L < 2147483648) (go : ∀ S2 e p5 p6, e ≤ 1 → cw_I (c + 200008) S2 → cm_At (am_XX L xs) 1000 300 1907 [some (.ref 1000000), some (.ref 0), some (.ref 83), some (.ref 132), some (.int (Int32.ofNat n)), p5, p6, none] [] S2 (cm_sh K e)) : cm_At (am_XX L xs) 1000 300 972 [some (.ref 1000000), some (.ref 0), some (.ref 83), some (.ref 132), some (.int (Int32.ofNat n)), o5, o6, none] [] S K := by
  obtain ⟨N, T, U, R, c2, hc2, hb, hR, hmr⟩ := hI
  have w5 : ∀ S2, cf_W (fun b j => decide (b = 132 ∨ b = 83 ∧ j = 75)) S S2 → cw_I (c + 200008) S2 := fun S2 hf => ⟨N, T, U, R, c2, by omega, cr_b_f2 hf (fun b j h => by have h := of_decide_eq_true h; omega) hb, hR, cr_mr_c7 hf (fun b j h => decide_eq_false (by omega)) hmr⟩
  exact cr_centre (d := 993) hb hL5 hL2 (fun S2 N2 e q5 q6 he hb2 hf => go S2 e _ _ he ⟨N2, T, U, R, c2, by omega, hb2, hR, cr_mr_c7 hf cw_nm hmr⟩)
theorem cw_define (hI : cw_I c S) (hc : c + 200008 < 2000000000) (hL5 : n + 5 ≤ L) (hL2 : L < 2147483648) (go : ∀ S2 e p5 p6, e ≤ 1 → cw_I (c + 200008) S2 → cm_At (am_XX L xs) 1000 300 1907 [some (.ref 1000000), some (.ref 0), some (.ref 83), some (.ref 132), some (.int (Int32.ofNat n)), p5, p6, none] [] S2 (cm_sh K e)) : cm_At (am_XX L xs) 1000 300 1040 [some (.ref 1000000), some (.ref 0), some (.ref 83), some (.ref 132), some (.int (Int32.ofNat n)), o5, o6, none] [] S K := by
  obtain ⟨N, T, U, R, c2, hc2, hb, hR, hmr⟩ := hI
  have w5 : ∀ S2, cf_W (fun b j => decide (b = 132 ∨ b = 83 ∧ j = 75)) S S2 → cw_I (c + 200008) S2 := fun S2 hf => ⟨N, T, U, R, c2, by omega, cr_b_f2 hf (fun b j h => by have h := of_decide_eq_true h; omega) hb, hR, cr_mr_c7 hf (fun b j h => decide_eq_false (by omega)) hmr⟩
  exact cr_define (d := 834) hb (by omega) hL5 hL2 (fun S2 T2 U2 c3 e q5 q6 he hc3 hb2 hf => go S2 e _ _ he ⟨N, T2, U2, R, c3, by omega, hb2, hR, cr_mr_c7 hf (fun b j h => decide_eq_false (by omega)) hmr⟩)
theorem cw_rule (hI : cw_I c S) (hc : c + 200008 < 2000000000) (hL5 : n + 5 ≤ L) (hL2 : L < 2147483648) (go : ∀ S2 e p5 p6, e ≤ 1 → cw_I (c + 200008) S2 → cm_At (am_XX L xs) 1000 300 1907 [some (.ref 1000000), some (.ref 0), some (.ref 83), some (.ref 132), some (.int (Int32.ofNat n)), p5, p6, none] [] S2 (cm_sh K e)) : cm_At (am_XX L xs) 1000 300 1108 [some (.ref 1000000), some (.ref 0), some (.ref 83), some (.ref 132), some (.int (Int32.ofNat n)), o5, o6, none] [] S K := by
  obtain ⟨N, T, U, R, c2, hc2, hb, hR, hmr⟩ := hI
  have w5 : ∀ S2, cf_W (fun b j => decide (b = 132 ∨ b = 83 ∧ j = 75)) S S2 → cw_I (c + 200008) S2 := fun S2 hf => ⟨N, T, U, R, c2, by omega, cr_b_f2 hf (fun b j h => by have h := of_decide_eq_true h; omega) hb, hR, cr_mr_c7 hf (fun b j h => decide_eq_false (by omega)) hmr⟩
  exact cr_ruk (d := 995) hb hR hL5 hL2 (fun S2 R2 e q5 q6 he hb2 hR2 hf => go S2 e _ _ he ⟨N, T, U, R2, c2, by omega, hb2, hR2, cr_mr_c7 hf (fun b j h => decide_eq_false (by omega)) hmr⟩)
theorem cw_pass (hI : cw_I c S) (hc : c + 200008 < 2000000000) (hL5 : n + 5 ≤ L) (hL2 : L < 2147483648) (go : ∀ S2 e p5 p6, e ≤ 1 → cw_I (c + 200008) S2 → cm_At (am_XX L xs) 1000 300 1907 [some (.ref 1000000), some (.ref 0), some (.ref 83), some (.ref 132), some (.int (Int32.ofNat n)), p5, p6, none] [] S2 (cm_sh K e)) : cm_At (am_XX L xs) 1000 300 1200 [some (.ref 1000000), some (.ref 0), some (.ref 83), some (.ref 132), some (.int (Int32.ofNat n)), o5, o6, none] [] S K := by
  obtain ⟨N, T, U, R, c2, hc2, hb, hR, hmr⟩ := hI
  have w5 : ∀ S2, cf_W (fun b j => decide (b = 132 ∨ b = 83 ∧ j = 75)) S S2 → cw_I (c + 200008) S2 := fun S2 hf => ⟨N, T, U, R, c2, by omega, cr_b_f2 hf (fun b j h => by have h := of_decide_eq_true h; omega) hb, hR, cr_mr_c7 hf (fun b j h => decide_eq_false (by omega)) hmr⟩
  exact cr_pass (d := 337) hb hR (by omega) (by omega) hL2 (fun S2 U2 c3 e q5 q6 he hc3 hb2 hf => go S2 e _ _ he ⟨N, T, U2, R, c3, by omega, hb2, hR, cr_mr_c7 hf (fun b j h => decide_eq_false (by omega)) hmr⟩)
theorem cw_reset (hI : cw_I c S) (hc : c + 200008 < 2000000000) (hL5 : n + 5 ≤ L) (hL2 : L < 2147483648) (go : ∀ S2 e p5 p6, e ≤ 1 → cw_I (c + 200008) S2 → cm_At (am_XX L xs) 1000 300 1907 [some (.ref 1000000), some (.ref 0), some (.ref 83), some (.ref 132), some (.int (Int32.ofNat n)), p5, p6, none] [] S2 (cm_sh K e)) : cm_At (am_XX L xs) 1000 300 1256 [some (.ref 1000000), some (.ref 0), some (.ref 83), some (.ref 132), some (.int (Int32.ofNat n)), o5, o6, none] [] S K := by
  obtain ⟨N, T, U, R, c2, hc2, hb, hR, hmr⟩ := hI
  have w5 : ∀ S2, cf_W (fun b j => decide (b = 132 ∨ b = 83 ∧ j = 75)) S S2 → cw_I (c + 200008) S2 := fun S2 hf => ⟨N, T, U, R, c2, by omega, cr_b_f2 hf (fun b j h => by have h := of_decide_eq_true h; omega) hb, hR, cr_mr_c7 hf (fun b j h => decide_eq_false (by omega)) hmr⟩
  exact cr_reset (d := 844) hb (by omega) (fun S2 c3 hc3 hb2 hf => cw_uz (go S2 0 _ _ (by omega) ⟨N, T, T, R, c3, by omega, hb2, hR, cr_mr_c7 hf (fun b j h => decide_eq_false (by omega)) hmr⟩))
theorem cw_size (hI : cw_I c S) (hc : c + 200008 < 2000000000) (hL5 : n + 5 ≤ L) (hL2 : L < 2147483648) (go : ∀ S2 e p5 p6, e ≤ 1 → cw_I (c + 200008) S2 → cm_At (am_XX L xs) 1000 300 1907 [some (.ref 1000000), some (.ref 0), some (.ref 83), some (.ref 132), some (.int (Int32.ofNat n)), p5, p6, none] [] S2 (cm_sh K e)) : cm_At (am_XX L xs) 1000 300 1269 [some (.ref 1000000), some (.ref 0), some (.ref 83), some (.ref 132), some (.int (Int32.ofNat n)), o5, o6, none] [] S K := by
  obtain ⟨N, T, U, R, c2, hc2, hb, hR, hmr⟩ := hI
  have w5 : ∀ S2, cf_W (fun b j => decide (b = 132 ∨ b = 83 ∧ j = 75)) S S2 → cw_I (c + 200008) S2 := fun S2 hf => ⟨N, T, U, R, c2, by omega, cr_b_f2 hf (fun b j h => by have h := of_decide_eq_true h; omega) hb, hR, cr_mr_c7 hf (fun b j h => decide_eq_false (by omega)) hmr⟩
  exact cr_size (d := 847) hb hL5 hL2 (fun S2 e q5 q6 he hb2 hf => go S2 e _ _ he ⟨N, T, U, R, c2, by omega, hb2, hR, cr_mr_c7 hf (fun b j h => decide_eq_false (by omega)) hmr⟩)
theorem cw_core (hI : cw_I c S) (hc : c + 200008 < 2000000000) (hL5 : n + 5 ≤ L) (hL2 : L < 2147483648) (go : ∀ S2 e p5 p6, e ≤ 1 → cw_I (c + 200008) S2 → cm_At (am_XX L xs) 1000 300 1907 [some (.ref 1000000), some (.ref 0), some (.ref 83), some (.ref 132), some (.int (Int32.ofNat n)), p5, p6, none] [] S2 (cm_sh K e)) : cm_At (am_XX L xs) 1000 300 1325 [some (.ref 1000000), some (.ref 0), some (.ref 83), some (.ref 132), some (.int (Int32.ofNat n)), o5, o6, none] [] S K := by
  obtain ⟨N, T, U, R, c2, hc2, hb, hR, hmr⟩ := hI
  have w5 : ∀ S2, cf_W (fun b j => decide (b = 132 ∨ b = 83 ∧ j = 75)) S S2 → cw_I (c + 200008) S2 := fun S2 hf => ⟨N, T, U, R, c2, by omega, cr_b_f2 hf (fun b j h => by have h := of_decide_eq_true h; omega) hb, hR, cr_mr_c7 hf (fun b j h => decide_eq_false (by omega)) hmr⟩
  exact cr_core (d := 846) hb hL5 hL2 (fun S2 e p5 p6 he hb2 hf => go S2 e _ _ he ⟨N, T, U, R, c2, by omega, hb2, hR, cr_mr_c7 hf (fun b j h => decide_eq_false (by omega)) hmr⟩)
theorem cw_parameters (hI : cw_I c S) (hc : c + 200008 < 2000000000) (hL5 : n + 5 ≤ L) (hL2 : L < 2147483648) (go : ∀ S2 e p5 p6, e ≤ 1 → cw_I (c + 200008) S2 → cm_At (am_XX L xs) 1000 300 1907 [some (.ref 1000000), some (.ref 0), some (.ref 83), some (.ref 132), some (.int (Int32.ofNat n)), p5, p6, none] [] S2 (cm_sh K e)) : cm_At (am_XX L xs) 1000 300 1380 [some (.ref 1000000), some (.ref 0), some (.ref 83), some (.ref 132), some (.int (Int32.ofNat n)), o5, o6, none] [] S K := by
  obtain ⟨N, T, U, R, c2, hc2, hb, hR, hmr⟩ := hI
  have w5 : ∀ S2, cf_W (fun b j => decide (b = 132 ∨ b = 83 ∧ j = 75)) S S2 → cw_I (c + 200008) S2 := fun S2 hf => ⟨N, T, U, R, c2, by omega, cr_b_f2 hf (fun b j h => by have h := of_decide_eq_true h; omega) hb, hR, cr_mr_c7 hf (fun b j h => decide_eq_false (by omega)) hmr⟩
  exact cr_parameters (d := 542) hb hL5 hL2 (fun S2 e q5 q6 he hb2 hf => go S2 e _ _ he ⟨N, T, U, R, c2, by omega, hb2, hR, cr_mr_c7 hf (fun b j h => decide_eq_false (by omega)) hmr⟩)
theorem cw_needs (hI : cw_I c S) (hc : c + 200008 < 2000000000) (hL5 : n + 5 ≤ L) (hL2 : L < 2147483648) (go : ∀ S2 e p5 p6, e ≤ 1 → cw_I (c + 200008) S2 → cm_At (am_XX L xs) 1000 300 1907 [some (.ref 1000000), some (.ref 0), some (.ref 83), some (.ref 132), some (.int (Int32.ofNat n)), p5, p6, none] [] S2 (cm_sh K e)) : cm_At (am_XX L xs) 1000 300 1436 [some (.ref 1000000), some (.ref 0), some (.ref 83), some (.ref 132), some (.int (Int32.ofNat n)), o5, o6, none] [] S K := by
  obtain ⟨N, T, U, R, c2, hc2, hb, hR, hmr⟩ := hI
  have w5 : ∀ S2, cf_W (fun b j => decide (b = 132 ∨ b = 83 ∧ j = 75)) S S2 → cw_I (c + 200008) S2 := fun S2 hf => ⟨N, T, U, R, c2, by omega, cr_b_f2 hf (fun b j h => by have h := of_decide_eq_true h; omega) hb, hR, cr_mr_c7 hf (fun b j h => decide_eq_false (by omega)) hmr⟩
  exact cr_needs (d := 542) hb hL5 hL2 (fun S2 e q5 q6 he hb2 hf => go S2 e _ _ he ⟨N, T, U, R, c2, by omega, hb2, hR, cr_mr_c7 hf (fun b j h => decide_eq_false (by omega)) hmr⟩)
theorem cw_isAbsent (hI : cw_I c S) (hc : c + 200008 < 2000000000) (hL5 : n + 5 ≤ L) (hL2 : L < 2147483648) (go : ∀ S2 e p5 p6, e ≤ 1 → cw_I (c + 200008) S2 → cm_At (am_XX L xs) 1000 300 1907 [some (.ref 1000000), some (.ref 0), some (.ref 83), some (.ref 132), some (.int (Int32.ofNat n)), p5, p6, none] [] S2 (cm_sh K e)) : cm_At (am_XX L xs) 1000 300 1511 [some (.ref 1000000), some (.ref 0), some (.ref 83), some (.ref 132), some (.int (Int32.ofNat n)), o5, o6, none] [] S K := by
  obtain ⟨N, T, U, R, c2, hc2, hb, hR, hmr⟩ := hI
  have w5 : ∀ S2, cf_W (fun b j => decide (b = 132 ∨ b = 83 ∧ j = 75)) S S2 → cw_I (c + 200008) S2 := fun S2 hf => ⟨N, T, U, R, c2, by omega, cr_b_f2 hf (fun b j h => by have h := of_decide_eq_true h; omega) hb, hR, cr_mr_c7 hf (fun b j h => decide_eq_false (by omega)) hmr⟩
  exact cr_isAbsent (d := 542) hb hL5 hL2 (fun S2 e q5 q6 he hb2 hf => go S2 e _ _ he ⟨N, T, U, R, c2, by omega, hb2, hR, cr_mr_c7 hf (fun b j h => decide_eq_false (by omega)) hmr⟩)
theorem cw_run (hI : cw_I c S) (hc : c + 200008 < 2000000000) (hL5 : n + 5 ≤ L) (hL2 : L < 2147483648) (go : ∀ S2 e p5 p6, e ≤ 1 → cw_I (c + 200008) S2 → cm_At (am_XX L xs) 1000 300 1907 [some (.ref 1000000), some (.ref 0), some (.ref 83), some (.ref 132), some (.int (Int32.ofNat n)), p5, p6, none] [] S2 (cm_sh K e)) : cm_At (am_XX L xs) 1000 300 1586 [some (.ref 1000000), some (.ref 0), some (.ref 83), some (.ref 132), some (.int (Int32.ofNat n)), o5, o6, none] [] S K := by
  obtain ⟨N, T, U, R, c2, hc2, hb, hR, hmr⟩ := hI
  have w5 : ∀ S2, cf_W (fun b j => decide (b = 132 ∨ b = 83 ∧ j = 75)) S S2 → cw_I (c + 200008) S2 := fun S2 hf => ⟨N, T, U, R, c2, by omega, cr_b_f2 hf (fun b j h => by have h := of_decide_eq_true h; omega) hb, hR, cr_mr_c7 hf (fun b j h => decide_eq_false (by omega)) hmr⟩
  exact cr_run (d := 839) hb hmr (by omega) (by omega) hL2 (fun S2 c3 e q5 q6 he hc3 hb2 hmr2 => go S2 e _ _ he ⟨N, T, U, R, c3, by omega, hb2, hR, hmr2⟩)
theorem cw_goOn (hI : cw_I c S) (hc : c + 200008 < 2000000000) (hL5 : n + 5 ≤ L) (hL2 : L < 2147483648) (go : ∀ S2 e p5 p6, e ≤ 1 → cw_I (c + 200008) S2 → cm_At (am_XX L xs) 1000 300 1907 [some (.ref 1000000), some (.ref 0), some (.ref 83), some (.ref 132), some (.int (Int32.ofNat n)), p5, p6, none] [] S2 (cm_sh K e)) : cm_At (am_XX L xs) 1000 300 1682 [some (.ref 1000000), some (.ref 0), some (.ref 83), some (.ref 132), some (.int (Int32.ofNat n)), o5, o6, none] [] S K := by
  obtain ⟨N, T, U, R, c2, hc2, hb, hR, hmr⟩ := hI
  have w5 : ∀ S2, cf_W (fun b j => decide (b = 132 ∨ b = 83 ∧ j = 75)) S S2 → cw_I (c + 200008) S2 := fun S2 hf => ⟨N, T, U, R, c2, by omega, cr_b_f2 hf (fun b j h => by have h := of_decide_eq_true h; omega) hb, hR, cr_mr_c7 hf (fun b j h => decide_eq_false (by omega)) hmr⟩
  exact cr_goOn (d := 989) hb hmr (by omega) hL2 (fun S2 e q5 q6 he hb2 hmr2 => go S2 e _ _ he ⟨N, T, U, R, c2, by omega, hb2, hR, hmr2⟩)
theorem cw_print (hI : cw_I c S) (hc : c + 200008 < 2000000000) (hL5 : n + 5 ≤ L) (hL2 : L < 2147483648) (go : ∀ S2 e p5 p6, e ≤ 1 → cw_I (c + 200008) S2 → cm_At (am_XX L xs) 1000 300 1907 [some (.ref 1000000), some (.ref 0), some (.ref 83), some (.ref 132), some (.int (Int32.ofNat n)), p5, p6, none] [] S2 (cm_sh K e)) : cm_At (am_XX L xs) 1000 300 1738 [some (.ref 1000000), some (.ref 0), some (.ref 83), some (.ref 132), some (.int (Int32.ofNat n)), o5, o6, none] [] S K := by
  obtain ⟨N, T, U, R, c2, hc2, hb, hR, hmr⟩ := hI
  have w5 : ∀ S2, cf_W (fun b j => decide (b = 132 ∨ b = 83 ∧ j = 75)) S S2 → cw_I (c + 200008) S2 := fun S2 hf => ⟨N, T, U, R, c2, by omega, cr_b_f2 hf (fun b j h => by have h := of_decide_eq_true h; omega) hb, hR, cr_mr_c7 hf (fun b j h => decide_eq_false (by omega)) hmr⟩
  exact cr_print (d := 994) hmr (fun S2 e o5 o6 he hf => go S2 e _ _ he (w5 S2 hf))
theorem cw_steps (hI : cw_I c S) (hc : c + 200008 < 2000000000) (hL5 : n + 5 ≤ L) (hL2 : L < 2147483648) (go : ∀ S2 e p5 p6, e ≤ 1 → cw_I (c + 200008) S2 → cm_At (am_XX L xs) 1000 300 1907 [some (.ref 1000000), some (.ref 0), some (.ref 83), some (.ref 132), some (.int (Int32.ofNat n)), p5, p6, none] [] S2 (cm_sh K e)) : cm_At (am_XX L xs) 1000 300 1781 [some (.ref 1000000), some (.ref 0), some (.ref 83), some (.ref 132), some (.int (Int32.ofNat n)), o5, o6, none] [] S K := by
  obtain ⟨N, T, U, R, c2, hc2, hb, hR, hmr⟩ := hI
  have w5 : ∀ S2, cf_W (fun b j => decide (b = 132 ∨ b = 83 ∧ j = 75)) S S2 → cw_I (c + 200008) S2 := fun S2 hf => ⟨N, T, U, R, c2, by omega, cr_b_f2 hf (fun b j h => by have h := of_decide_eq_true h; omega) hb, hR, cr_mr_c7 hf (fun b j h => decide_eq_false (by omega)) hmr⟩
  exact cr_steps (d := 998) (cr_mr_st hmr) (cw_uz (go _ 0 _ _ (by omega) (w5 _ (cf_wI (decide_eq_true (by omega))))))
theorem cw_cells (hI : cw_I c S) (hc : c + 200008 < 2000000000) (hL5 : n + 5 ≤ L) (hL2 : L < 2147483648) (go : ∀ S2 e p5 p6, e ≤ 1 → cw_I (c + 200008) S2 → cm_At (am_XX L xs) 1000 300 1907 [some (.ref 1000000), some (.ref 0), some (.ref 83), some (.ref 132), some (.int (Int32.ofNat n)), p5, p6, none] [] S2 (cm_sh K e)) : cm_At (am_XX L xs) 1000 300 1794 [some (.ref 1000000), some (.ref 0), some (.ref 83), some (.ref 132), some (.int (Int32.ofNat n)), o5, o6, none] [] S K := by
  obtain ⟨N, T, U, R, c2, hc2, hb, hR, hmr⟩ := hI
  have w5 : ∀ S2, cf_W (fun b j => decide (b = 132 ∨ b = 83 ∧ j = 75)) S S2 → cw_I (c + 200008) S2 := fun S2 hf => ⟨N, T, U, R, c2, by omega, cr_b_f2 hf (fun b j h => by have h := of_decide_eq_true h; omega) hb, hR, cr_mr_c7 hf (fun b j h => decide_eq_false (by omega)) hmr⟩
  exact cr_cells (d := 997) hmr (cw_uz (go _ 0 _ _ (by omega) (w5 _ (cf_wI (decide_eq_true (by omega))))))
theorem cw_entered (hI : cw_I c S) (hc : c + 200008 < 2000000000) (hL5 : n + 5 ≤ L) (hL2 : L < 2147483648) (go : ∀ S2 e p5 p6, e ≤ 1 → cw_I (c + 200008) S2 → cm_At (am_XX L xs) 1000 300 1907 [some (.ref 1000000), some (.ref 0), some (.ref 83), some (.ref 132), some (.int (Int32.ofNat n)), p5, p6, none] [] S2 (cm_sh K e)) : cm_At (am_XX L xs) 1000 300 1807 [some (.ref 1000000), some (.ref 0), some (.ref 83), some (.ref 132), some (.int (Int32.ofNat n)), o5, o6, none] [] S K := by
  obtain ⟨N, T, U, R, c2, hc2, hb, hR, hmr⟩ := hI
  have w5 : ∀ S2, cf_W (fun b j => decide (b = 132 ∨ b = 83 ∧ j = 75)) S S2 → cw_I (c + 200008) S2 := fun S2 hf => ⟨N, T, U, R, c2, by omega, cr_b_f2 hf (fun b j h => by have h := of_decide_eq_true h; omega) hb, hR, cr_mr_c7 hf (fun b j h => decide_eq_false (by omega)) hmr⟩
  exact cr_entered (d := 996) (cr_mr_en hmr) hL5 hL2 (fun S2 e q5 q6 he hf => go S2 e _ _ he (w5 S2 hf))
theorem cw_live (hI : cw_I c S) (hc : c + 200008 < 2000000000) (hL5 : n + 5 ≤ L) (hL2 : L < 2147483648) (go : ∀ S2 e p5 p6, e ≤ 1 → cw_I (c + 200008) S2 → cm_At (am_XX L xs) 1000 300 1907 [some (.ref 1000000), some (.ref 0), some (.ref 83), some (.ref 132), some (.int (Int32.ofNat n)), p5, p6, none] [] S2 (cm_sh K e)) : cm_At (am_XX L xs) 1000 300 1863 [some (.ref 1000000), some (.ref 0), some (.ref 83), some (.ref 132), some (.int (Int32.ofNat n)), o5, o6, none] [] S K := by
  obtain ⟨N, T, U, R, c2, hc2, hb, hR, hmr⟩ := hI
  have w5 : ∀ S2, cf_W (fun b j => decide (b = 132 ∨ b = 83 ∧ j = 75)) S S2 → cw_I (c + 200008) S2 := fun S2 hf => ⟨N, T, U, R, c2, by omega, cr_b_f2 hf (fun b j h => by have h := of_decide_eq_true h; omega) hb, hR, cr_mr_c7 hf (fun b j h => decide_eq_false (by omega)) hmr⟩
  exact cr_live (d := 841) hb hmr (fun S2 e q5 q6 he hb2 hmr2 => go S2 e _ _ he ⟨N, T, U, R, c2, by omega, hb2, hR, hmr2⟩)
theorem cw_c8 {c m : Nat} (hc : c + 200008 * (m + 1) < 1900000000) : c + 200008 < 2000000000 := by
  rw [Nat.mul_add, Nat.mul_one] at hc
  exact Nat.lt_trans (Nat.lt_of_le_of_lt (Nat.add_le_add_left (Nat.le_add_left 200008 (200008 * m)) c) hc) (Nat.le_of_ble_eq_true rfl)
/-- the turns of the law, as many as are left -/
theorem cw_turns (hL2 : L < 2147483648) : ∀ (m n c : Nat) (S : cm_S) (K : cm_K) (o5 o6 : Option Value), L ≤ n + 5 * m + 4 → n ≤ L → c + 200008 * m < 1900000000 → cw_I c S → (∀ S2 k, k ≤ m → K (.inl (some (.int 1))) S2 k) → cm_At (am_XX L xs) 1000 300 23 [some (.ref 1000000), some (.ref 0), some (.ref 83), some (.ref 132), some (.int (Int32.ofNat n)), o5, o6, none] [] S K
  | m, n, c, S, K, o5, o6, hm, hn, hc, hI, k => by
    have eL : (Int32.ofNat L - 5 < Int32.ofNat n) ↔ L < n + 5 := by
      rw [Int32.lt_iff_toInt_lt, Int32.toInt_sub, cp_tI hL2, cp_tI (by omega), show (5 : Int32).toInt = 5 from rfl, Int.bmod_eq_of_le (by omega) (by omega)]
      omega
    refine cx_300_23 (d := 999) _ _ _ ?_
    refine ⟨fun _ => ⟨Or.inr rfl, k _ _ (Nat.zero_le _)⟩, fun hno => ⟨cp_in (by rw [eL] at hno; omega) hL2, ?_⟩⟩
    rintro x1 -
    have hL5 : n + 5 ≤ L := by rw [eL] at hno; omega
    match m, hm, hc, k with
    | 0, hm, hc, k => exact absurd hm (by omega)
    | m + 1, hm, hc, k =>
    have hc8 : c + 200008 < 2000000000 := cw_c8 hc
    have go : ∀ S2 e p5 p6, e ≤ 1 → cw_I (c + 200008) S2 → cm_At (am_XX L xs) 1000 300 1907 [some (.ref 1000000), some (.ref 0), some (.ref 83), some (.ref 132), some (.int (Int32.ofNat n)), p5, p6, none] [] S2 (cm_sh K e) := fun S2 e p5 p6 he hI2 => by
      refine cx_300_1907 (d := 999) _ _ _ ?_
      rw [show Int32.ofNat n + 5 = Int32.ofNat (n + 5) from cp_ad (b := 5)]
      exact cw_turns hL2 m (n + 5) (c + 200008) S2 _ _ _ (by omega) (by omega) (by omega) hI2 (fun S3 k2 hk2 => k S3 (e + k2) (by omega))
    refine ⟨fun _ => cw_number hI hc8 hL5 hL2 go, fun _ => ?_⟩
    refine ⟨fun _ => cw_variable hI hc8 hL5 hL2 go, fun _ => ?_⟩
    refine ⟨fun _ => cw_global hI hc8 hL5 hL2 go, fun _ => ?_⟩
    refine ⟨fun _ => cw_lambda hI hc8 hL5 hL2 go, fun _ => ?_⟩
    refine ⟨fun _ => cw_apply hI hc8 hL5 hL2 go, fun _ => ?_⟩
    refine ⟨fun _ => cw_let hI hc8 hL5 hL2 go, fun _ => ?_⟩
    refine ⟨fun _ => cw_primitive hI hc8 hL5 hL2 go, fun _ => ?_⟩
    refine ⟨fun _ => cw_nil hI hc8 hL5 hL2 go, fun _ => ?_⟩
    refine ⟨fun _ => cw_cons hI hc8 hL5 hL2 go, fun _ => ?_⟩
    refine ⟨fun _ => cw_match hI hc8 hL5 hL2 go, fun _ => ?_⟩
    refine ⟨fun _ => cw_test hI hc8 hL5 hL2 go, fun _ => ?_⟩
    refine ⟨fun _ => cw_centre hI hc8 hL5 hL2 go, fun _ => ?_⟩
    refine ⟨fun _ => cw_define hI hc8 hL5 hL2 go, fun _ => ?_⟩
    refine ⟨fun _ => cw_rule hI hc8 hL5 hL2 go, fun _ => ?_⟩
    refine ⟨fun _ => cw_pass hI hc8 hL5 hL2 go, fun _ => ?_⟩
    refine ⟨fun _ => cw_reset hI hc8 hL5 hL2 go, fun _ => ?_⟩
    refine ⟨fun _ => cw_size hI hc8 hL5 hL2 go, fun _ => ?_⟩
    refine ⟨fun _ => cw_core hI hc8 hL5 hL2 go, fun _ => ?_⟩
    refine ⟨fun _ => cw_parameters hI hc8 hL5 hL2 go, fun _ => ?_⟩
    refine ⟨fun _ => cw_needs hI hc8 hL5 hL2 go, fun _ => ?_⟩
    refine ⟨fun _ => cw_isAbsent hI hc8 hL5 hL2 go, fun _ => ?_⟩
    refine ⟨fun _ => cw_run hI hc8 hL5 hL2 go, fun _ => ?_⟩
    refine ⟨fun _ => cw_goOn hI hc8 hL5 hL2 go, fun _ => ?_⟩
    refine ⟨fun _ => cw_print hI hc8 hL5 hL2 go, fun _ => ?_⟩
    refine ⟨fun _ => cw_steps hI hc8 hL5 hL2 go, fun _ => ?_⟩
    refine ⟨fun _ => cw_cells hI hc8 hL5 hL2 go, fun _ => ?_⟩
    refine ⟨fun _ => cw_entered hI hc8 hL5 hL2 go, fun _ => ?_⟩
    refine ⟨fun _ => cw_live hI hc8 hL5 hL2 go, fun _ => ?_⟩
    exact cw_uz (go S 0 _ _ (Nat.zero_le _) (by obtain ⟨N, T, U, R, c2, hc2, h⟩ := hI; exact ⟨N, T, U, R, c2, Nat.le_trans hc2 (Nat.le_add_right _ _), h⟩))
end CPa49
