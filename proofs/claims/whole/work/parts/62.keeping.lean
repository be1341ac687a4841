/-! ## 62 the model makes a node a definition -/
def cW_md (i b j : Nat) : Bool := decide (b = 91 ∨ 92 ≤ b ∧ b ≤ 98 ∧ (150 * i ≤ j ∧ j < 150 * i + 150 ∨ 1200 + 150 * i ≤ j ∧ j < 1350 + 150 * i ∨ 4800 ≤ j) ∨ b = 83 ∧ (j = 9 ∨ j = 17 ∨ j = 19 ∨ j = 20 ∨ j = 23 ∨ j = 75) ∨ 100 ≤ b ∧ b ≤ 101 ∨ b = 102 ∧ j = i ∨ b = 103 ∧ (j = i ∨ j = 8 + i))
def cW_mr (b j : Nat) : Bool := decide (b = 91 ∨ 92 ≤ b ∧ b ≤ 98 ∧ 4800 ≤ j ∨ b = 83 ∧ (j = 9 ∨ j = 17 ∨ j = 19 ∨ j = 20 ∨ j = 75))
section CP62
variable {L : Nat} {xs : Nat → Int32} {N : List ct_E}
/-- a core that is known is kept twice, and its size told -/
theorem cs_keep {T U : Nat → ct_T} {c d i : Nat} {x8 : Int32} {E : ct_T} {S : cm_S} {K : cm_K} (hi : i < 8) (hE : ct_co E) (hcan : ct_can E = E) (hsz : ct_sz E ≤ 80) (ht : cl_t S E x8 (List.range' 4800 (ct_sz E))) (hT : ct_ds T) (hU : ct_ds U) (h1 : cl_d S 0 0 T) (h2 : cl_d S 8 1200 U) (hcs : cl_cs S c) (hc : c < 2000000000)
    (k : ∀ S2, cl_d S2 0 0 (ct_up T i E) → cl_d S2 8 1200 (ct_up U i E) → cl_cs S2 (c + 2) → cf_W (fun b j => decide (92 ≤ b ∧ b ≤ 98 ∧ (150 * i ≤ j ∧ j < 150 * i + 150 ∨ 1200 + 150 * i ≤ j ∧ j < 1350 + 150 * i) ∨ b = 83 ∧ (j = 17 ∨ j = 19 ∨ j = 20 ∨ j = 23) ∨ 100 ≤ b ∧ b ≤ 101 ∨ b = 103 ∧ (j = i ∨ j = 8 + i))) S S2 → K (.inl (some (.int (Int32.ofNat (ct_sz E))))) S2 0) :
    cm_At (am_XX L xs) (d + 164) 203 0 [some (.ref 83), some (.int x8), some (.int (Int32.ofNat (150 * i)))] [] S (fun r S15 k16 => cm_r1 (fun x18 => am_in (Int32.ofNat i) 32 ∧ ∀ S19, S19 = cm_wI S15 103 i x18 → (am_in (Int32.ofNat i) 32 ∧ ∀ x20, x20 = S19.1 103 i → (cm_At (am_XX L xs) (d + 164) 203 0 [some (.ref 83), some (.int x20), some (.int (Int32.ofNat (1200 + 150 * i)))] [] S19 (fun r S21 k22 => cm_r1 (fun x24 => am_in (Int32.ofNat (8 + i)) 32 ∧ ∀ S25, S25 = cm_wI S21 103 (8 + i) x24 → (am_in (Int32.ofNat i) 32 ∧ ∀ x26, x26 = S25.1 103 i → (cm_At (am_XX L xs) (d + 164) 204 0 [some (.ref 83), some (.int x26)] [] S25 (fun r S27 k28 => cm_r1 (fun x30 => (cm_sh (cm_sh (cm_sh K k16) k22) k28) (.inl (some (.int x30))) S27 0) (fun e29 => (cm_sh (cm_sh K k16) k22) (.inr e29) S27 k28) r)))) (fun e23 => (cm_sh K k16) (.inr e23) S21 k22) r)))) (fun e17 => K (.inr e17) S15 k16) r) := by
  have hpos := ct_sz_ne hE.1 hE.2.1
  obtain ⟨p1, p2, p3⟩ := ct_pre_co hE
  have hsp : ct_sz (ct_pre E) = ct_sz E := ct_map_sz _
  have hl1 := ct_co_len hE
  have hl2 := ct_co_len p1
  have mr : ∀ {pl x : Nat}, x ∈ List.range' pl (ct_sz E) → pl ≤ x ∧ x < pl + 80 := fun h => by
    have := List.mem_range'_1.mp h
    omega
  refine cp_203D (by omega) (ct_co_gd hE) (by omega) ht (by omega) (fun x g1 g2 hx => by have := mr hx; omega) hcs (by omega) (fun S15 q15 t15 a15 v15 cs15 c15 => cp_r1 ⟨cp_in (by omega) (by decide), ?_⟩)
  rintro _ rfl
  have hq15 : q15 = Int32.ofNat (150 * i) := cl_t_q _ p1.1 (by omega) (by rw [hsp]; exact t15)
  subst hq15
  have c15w : cf_W (fun b j => decide (92 ≤ b ∧ b ≤ 98 ∧ (150 * i ≤ j ∧ j < 150 * i + 150) ∨ b = 83 ∧ (j = 17 ∨ j = 19 ∨ j = 20 ∨ j = 23) ∨ 100 ≤ b ∧ b ≤ 101 ∨ b = 103 ∧ j = i)) S (cm_wI S15 103 i (Int32.ofNat (150 * i))) := cf_tr (cf_mono c15 (fun b j h => decide_eq_true (by
    have h := of_decide_eq_true h
    rcases h with h | h | h | h
    · have := mr h.2.2; omega
    · omega
    · omega
    · omega))) (cf_wI (decide_eq_true (by omega)))
  have cw : cf_W (fun b _ => decide (b = 103)) S15 (cm_wI S15 103 i (Int32.ofNat (150 * i))) := cf_wI (decide_eq_true rfl)
  have t19 : cl_t (cm_wI S15 103 i (Int32.ofNat (150 * i))) (ct_pre E) (Int32.ofNat (150 * i)) (List.range' (150 * i) (ct_sz E)) := cl_t_cf cw _ p1.1 _ _ (fun b x q1 q2 _ => decide_eq_false (by omega)) t15
  have hr19 : (cm_wI S15 103 i (Int32.ofNat (150 * i))).1 103 i = Int32.ofNat (150 * i) := by rw [cp_wI1, if_pos ⟨rfl, rfl⟩]
  have d1 : cl_d (cm_wI S15 103 i (Int32.ofNat (150 * i))) 0 0 (ct_up T i E) := cl_d_up hT hi c15w (fun j hj hji => decide_eq_false (by omega)) (fun b x q1 q2 q3 q4 q5 => decide_eq_false (by omega)) (by rw [Nat.zero_add, Nat.zero_add]; exact hr19) (by rw [Nat.zero_add]; exact t19) h1
  have d2 : cl_d (cm_wI S15 103 i (Int32.ofNat (150 * i))) 8 1200 U := cl_d_fr hU c15w (fun j hj => decide_eq_false (by omega)) (fun b x q1 q2 q3 q4 => decide_eq_false (by omega)) h2
  have cs19 : cl_cs (cm_wI S15 103 i (Int32.ofNat (150 * i))) (c + 1) := cl_cs_f cw rfl (fun _ => rfl) cs15
  generalize cm_wI S15 103 i (Int32.ofNat (150 * i)) = S19 at c15w t19 hr19 d1 d2 cs19 ⊢
  refine ⟨cp_in (by omega) (by decide), ?_⟩
  rw [hr19]
  rintro _ rfl
  refine cp_203D (by omega) (ct_co_gd p1) (by omega) t19 (by omega) (fun x g1 g2 hx => by have := mr hx; omega) cs19 (by omega) (fun S21 q21 t21 a21 v21 cs21 c21 => cp_r1 ⟨cp_in (by omega) (by decide), ?_⟩)
  rintro _ rfl
  rw [p3, hsp] at t21
  rw [hsp] at c21
  have hq21 : q21 = Int32.ofNat (1200 + 150 * i) := cl_t_q _ p1.1 (by omega) (by rw [hsp]; exact t21)
  subst hq21
  have c21w : cf_W (fun b j => decide (92 ≤ b ∧ b ≤ 98 ∧ (1200 + 150 * i ≤ j ∧ j < 1350 + 150 * i) ∨ b = 83 ∧ (j = 17 ∨ j = 19 ∨ j = 20 ∨ j = 23) ∨ 100 ≤ b ∧ b ≤ 101 ∨ b = 103 ∧ j = 8 + i)) S19 (cm_wI S21 103 (8 + i) (Int32.ofNat (1200 + 150 * i))) := cf_tr (cf_mono c21 (fun b j h => decide_eq_true (by
    have h := of_decide_eq_true h
    rcases h with h | h | h | h
    · have := mr h.2.2; omega
    · omega
    · omega
    · omega))) (cf_wI (decide_eq_true (by omega)))
  have cw2 : cf_W (fun b _ => decide (b = 103)) S21 (cm_wI S21 103 (8 + i) (Int32.ofNat (1200 + 150 * i))) := cf_wI (decide_eq_true rfl)
  have hds : ct_ds (ct_up T i E) := ct_ds_up hT hE hcan
  have d3 : cl_d (cm_wI S21 103 (8 + i) (Int32.ofNat (1200 + 150 * i))) 0 0 (ct_up T i E) := cl_d_fr hds c21w (fun j hj => decide_eq_false (by omega)) (fun b x q1 q2 q3 q4 => decide_eq_false (by omega)) d1
  have d4 : cl_d (cm_wI S21 103 (8 + i) (Int32.ofNat (1200 + 150 * i))) 8 1200 (ct_up U i E) := cl_d_up hU hi c21w (fun j hj hji => decide_eq_false (by omega)) (fun b x q1 q2 q3 q4 q5 => decide_eq_false (by omega)) (by rw [cp_wI1, if_pos ⟨rfl, rfl⟩]) (cl_t_cf cw2 _ p1.1 _ _ (fun b x q1 q2 _ => decide_eq_false (by omega)) t21) d2
  have cs25 : cl_cs (cm_wI S21 103 (8 + i) (Int32.ofNat (1200 + 150 * i))) (c + 2) := cl_cs_f cw2 rfl (fun _ => rfl) cs21
  refine ⟨cp_in (by omega) (by decide), ?_⟩
  have hr25 : (cm_wI S21 103 (8 + i) (Int32.ofNat (1200 + 150 * i))).1 103 i = Int32.ofNat (150 * i) := by rw [(c21w 103 i (decide_eq_false (by omega))).1]; exact hr19
  have t25 : cl_t (cm_wI S21 103 (8 + i) (Int32.ofNat (1200 + 150 * i))) (ct_pre E) (Int32.ofNat (150 * i)) (List.range' (150 * i) (ct_sz E)) := cl_t_cf c21w _ p1.1 _ _ (fun b x q1 q2 hx => by have := mr hx; exact decide_eq_false (by omega)) t19
  rw [hr25]
  rintro _ rfl
  refine cp_204D (by omega) p1.1 (by omega) t25 (cp_r1 ?_)
  rw [hsp]
  try dsimp only [cm_sh]
  exact k _ d3 d4 cs25 (cf_tr (cf_mono c15w (fun b j h => decide_eq_true (by have h := of_decide_eq_true h; omega))) (cf_mono c21w (fun b j h => decide_eq_true (by have h := of_decide_eq_true h; omega))))
end CP62
