/-! ## a35 the class begins a run -/
/-- what holds once the class has begun, ahead of entering the definition -/
def dw_bA (W : Nat → ct_T) (dd : Nat) (B : cm_S) : Prop := B.1 57 5 = Int32.ofNat dd ∧ B.1 64 4 = Int32.ofNat 9 ∧ B.1 64 8 = Int32.ofNat 0 ∧ (∀ i, i < 8 → (W i = .leaf → B.1 65 i = 0) ∧ (¬ W i = .leaf → B.1 65 i = -1 ∧ B.1 66 i = Int32.ofNat (150 * i) ∧ B.1 67 i = -1 ∧ ck_t B 58 (150 * i) (W i))) ∧ (∀ i, i < 6 → B.1 79 i = 0) ∧ B.1 72 4 = Int32.ofNat 0 ∧ B.1 77 1 = Int32.ofNat 0 ∧ B.1 77 2 = Int32.ofNat 0 ∧ B.2 77 3 = 7 ∧ B.1 57 7 = Int32.ofNat 0
theorem dw_cap58 : cm_cap 58 = 1200 ∧ cm_cap 21 = 1200 ∧ cm_cap 27 = 1200 := by decide +kernel
section CPa35
variable {L : Nat} {xs : Nat → Int32} {d : Nat} {W : Nat → ct_T} {c0 dd : Nat}
theorem cp_58l (hc : c0 = 21 ∨ c0 = 27) (hw : ∀ i, i < 8 → ct_wf (W i) ∧ ct_sz (W i) ≤ 150) : ∀ (m n : Nat) (B : cm_S) (K : cm_K) (q2 : Int32) (o4 o5 : Option Value), n + m = 8 → ck_d B c0 W → (∀ i, i < n → (W i = .leaf → B.1 65 i = 0) ∧ (¬ W i = .leaf → B.1 65 i = -1 ∧ B.1 66 i = Int32.ofNat (150 * i) ∧ B.1 67 i = -1 ∧ ck_t B 58 (150 * i) (W i))) →
    (∀ B2 o4 o5, (∀ i, i < 8 → (W i = .leaf → B2.1 65 i = 0) ∧ (¬ W i = .leaf → B2.1 65 i = -1 ∧ B2.1 66 i = Int32.ofNat (150 * i) ∧ B2.1 67 i = -1 ∧ ck_t B2 58 (150 * i) (W i))) → cf_W (fun b j => decide (59 ≤ b ∧ b ≤ 63 ∨ 65 ≤ b ∧ b ≤ 68)) B B2 → cm_At (am_XX L xs) (d + 6) 58 84 [some (.ref 57), some (.ref c0), some (.int q2), some (.int 0), o4, o5] [] B2 K) →
    cm_At (am_XX L xs) (d + 6) 58 14 [some (.ref 57), some (.ref c0), some (.int q2), some (.int (Int32.ofNat n)), o4, o5] [] B K
  | 0, n, B, K, q2, o4, o5, hn, hd, hi, k => by
    have hn8 : n = 8 := by omega
    subst hn8
    have hcm : c0 ∈ cm_codes := by rcases hc with rfl | rfl <;> decide
    exact cx_58_14 hcm _ _ _ _ ⟨fun h => absurd h (by decide), fun _ => k B _ _ hi cf_rfl⟩
  | m + 1, n, B, K, q2, o4, o5, hn, hd, hi, k => by
    have hcm : c0 ∈ cm_codes := by rcases hc with rfl | rfl <;> decide
    have hc2 : ¬ 58 = c0 ∧ c0 + 5 < 57 := by rcases hc with rfl | rfl <;> omega
    have hcap : cm_cap c0 = 1200 := by
      rcases hc with rfl | rfl
      · exact dw_cap58.2.1
      · exact dw_cap58.2.2
    refine cx_58_14 hcm _ _ _ _ ⟨fun _ => ?_, fun h => absurd (by rw [show (8 : Int32) = Int32.ofNat 8 from rfl, cp_lt (by omega) (by omega)]; omega) h⟩
    refine cp_165 (cp_r1 ?_)
    rw [cp_rt]
    have go : ∀ (B1 B2 : cm_S) (st : Int32) (o4 o5 : Option Value), (W n = .leaf → st = 0) → (¬ W n = .leaf → st = -1 ∧ ck_t B1 58 (150 * n) (W n)) → cf_W (cW_c 58 (150 * n) (150 * n + 150)) B B1 → B2 = de_fi B1 n st (Int32.ofNat (150 * n)) (-1) 0 → cm_At (am_XX L xs) (d + 6) 58 14 [some (.ref 57), some (.ref c0), some (.int q2), some (.int (Int32.ofNat (n + 1))), o4, o5] [] B2 K := fun B1 B2 st o4 o5 s1 s2 f1 hB2 => by
      subst hB2
      obtain ⟨u1, u2, u3, u4⟩ := de_fi_at (A := B1) (i := n) (st := st) (f := Int32.ofNat (150 * n)) (s := -1) (num := 0)
      have f2 := de_fi_cf (A := B1) (i := n) (st := st) (f := Int32.ofNat (150 * n)) (s := -1) (num := 0)
      have f12 : cf_W (fun b j => decide (59 ≤ b ∧ b ≤ 63 ∨ 65 ≤ b ∧ b ≤ 68)) B (de_fi B1 n st (Int32.ofNat (150 * n)) (-1) 0) := cf_tr (cf_mono f1 (fun b j h => decide_eq_true (by have h := of_decide_eq_true h; omega))) (cf_mono f2 (fun b j h => decide_eq_true (by have h := of_decide_eq_true h; omega)))
      refine cp_58l hc hw m (n + 1) _ K q2 o4 o5 (by omega) (ck_d_fr f12 (fun b j q1 q2 => decide_eq_false (by omega)) hd) (fun i hin => ?_) (fun B3 o4 o5 g1 g2 => k B3 o4 o5 g1 (cf_tr f12 g2))
      by_cases hie : i = n
      · subst hie
        refine ⟨fun hl => by rw [u1]; exact s1 hl, fun hl => ⟨by rw [u1]; exact (s2 hl).1, u2, u3, ck_t_cf f2 (fun b j q1 q2 _ _ => decide_eq_false (by omega)) (s2 hl).2⟩⟩
      · obtain ⟨g1, g2⟩ := hi i (by omega)
        have hno : ∀ b j, 65 ≤ b → b ≤ 68 → j = i → cW_c 58 (150 * n) (150 * n + 150) b j = false := fun b j q1 q2 q3 => decide_eq_false (by omega)
        have e6 : ∀ b, 65 ≤ b → b ≤ 68 → (de_fi B1 n st (Int32.ofNat (150 * n)) (-1) 0).1 b i = B.1 b i := fun b q1 q2 => by
          rw [(f2 b i (decide_eq_false (by omega))).1, (f1 b i (hno b i q1 q2 rfl)).1]
        have hsz := (hw i (by omega)).2
        refine ⟨fun hl => by rw [e6 65 (by omega) (by omega)]; exact g1 hl, fun hl => ?_⟩
        obtain ⟨g3, g4, g5, g6⟩ := g2 hl
        refine ⟨by rw [e6 65 (by omega) (by omega)]; exact g3, by rw [e6 66 (by omega) (by omega)]; exact g4, by rw [e6 67 (by omega) (by omega)]; exact g5, ck_t_cf f2 (fun b j q1 q2 _ _ => decide_eq_false (by omega)) (ck_t_cf f1 (fun b j q1 q2 q3 q4 => decide_eq_false (by omega)) g6)⟩
    obtain ⟨d1, d2⟩ := hd n (by omega)
    obtain ⟨w1, w2⟩ := hw n (by omega)
    by_cases hl : W n = .leaf
    · have h5 : cp_g (cm_cap c0) (B.1 (c0 + 5)) 0 (Int32.ofNat (150 * n)) = 0 := by
        rw [cp_g_at (by rw [hcap]; omega) (by rw [hcap]; omega)]
        exact (d1 hl).1
      refine cp_21z (by decide) hcm h5 (cp_r0 ?_)
      refine cp_12 hcm (cp_r1 ?_)
      rw [h5]
      refine ⟨fun hc => absurd hc (by decide), fun _ => ⟨fun _ => ?_, fun hc => absurd rfl hc⟩⟩
      refine cp_120 (by omega) (cp_r0 ?_)
      rw [show Int32.ofNat n + 1 = Int32.ofNat (n + 1) from cp_ad (b := 1)]
      simp only [dk_sh0]
      exact go B _ 0 _ _ (fun _ => rfl) (fun hx => absurd hl hx) cf_rfl rfl
    · refine cp_21 (by decide) hcm hc2.1 w1 hl (d2 hl) (by rw [dw_cap58.1]; omega) (fun B1 t1 f1 => cp_r0 ?_)
      have hd1 : ck_t B1 c0 (150 * n) (W n) := ck_t_cf f1 (fun b j q1 q2 _ _ => decide_eq_false (by omega)) (d2 hl)
      have hz := ct_sz_ne w1 hl
      refine cp_12 hcm (cp_r1 ?_)
      rw [cp_sz hcm hd1 w1 hl]
      refine ⟨fun _ => ⟨fun hc => absurd hc (by decide), fun _ => ?_⟩, fun hc => absurd (by rw [show (0 : Int32) = Int32.ofNat 0 from rfl, cp_lt (by omega) (by omega)]; omega) hc⟩
      refine cp_120 (by omega) (cp_r0 ?_)
      rw [show Int32.ofNat n + 1 = Int32.ofNat (n + 1) from cp_ad (b := 1)]
      simp only [dk_sh0]
      exact go B1 _ (-1) _ _ (fun hx => absurd hx hl) (fun _ => ⟨rfl, t1⟩) (cf_mono f1 (fun b j h => decide_eq_true (by have h := of_decide_eq_true h; omega))) rfl
theorem cp_58m (hc : c0 = 21 ∨ c0 = 27) : ∀ (m n : Nat) (B : cm_S) (K : cm_K) (q2 : Int32) (o4 o5 : Option Value), n + m = 6 → (∀ i, i < n → B.1 79 i = 0) → (∀ B2 o4 o5, (∀ i, i < 6 → B2.1 79 i = 0) → cf_W (fun b _ => decide (b = 79)) B B2 → cm_At (am_XX L xs) (d + 6) 58 84 [some (.ref 57), some (.ref c0), some (.int q2), some (.int (Int32.ofNat 6)), o4, o5] [] B2 K) → cm_At (am_XX L xs) (d + 6) 58 84 [some (.ref 57), some (.ref c0), some (.int q2), some (.int (Int32.ofNat n)), o4, o5] [] B K
  | 0, n, B, K, q2, o4, o5, hn, hi, k => by
    have hn6 : n = 6 := by omega
    subst hn6
    exact k B _ _ hi cf_rfl
  | m + 1, n, B, K, q2, o4, o5, hn, hi, k => by
    have hcm : c0 ∈ cm_codes := by rcases hc with rfl | rfl <;> decide
    refine cx_58_84 hcm _ _ _ _ ⟨fun _ => ?_, fun h => absurd (by rw [show (6 : Int32) = Int32.ofNat 6 from rfl, cp_lt (by omega) (by omega)]; omega) h⟩
    refine cp_167 (by decide) (cp_r0 ?_)
    rw [cp_w_at (by rw [dm_rl.2.2.2.2.2.2.2.2.2.2.2.2]; omega) (by decide +kernel), show Int32.ofNat n + 1 = Int32.ofNat (n + 1) from cp_ad (b := 1)]
    simp only [dk_sh0]
    have f1 : cf_W (fun b _ => decide (b = 79)) B (cm_wI B 79 n 0) := cf_wI (decide_eq_true rfl)
    refine cp_58m hc m (n + 1) _ K q2 o4 o5 (by omega) (fun i hin => ?_) (fun B3 o4 o5 g1 g2 => k B3 o4 o5 g1 (cf_tr f1 g2))
    rw [cp_wI1]
    by_cases hie : i = n
    · rw [if_pos ⟨rfl, hie⟩]
    · rw [if_neg (fun hx => hie hx.2)]; exact hi i (by omega)
/-- the class has begun: the definition is entered -/
theorem cp_58 {S : cm_S} {K : cm_K} (hc : c0 = 21 ∨ c0 = 27) (hw : ∀ i, i < 8 → ct_wf (W i) ∧ ct_sz (W i) ≤ 150) (hd : ck_d S c0 W) (hdd : dd < 8) (hne : ¬ W dd = .leaf) (k : ∀ B, dw_bA W dd B → cf_W (fun b _ => decide (57 ≤ b ∧ b ≤ 79)) S B → K (.inl none) (de_nx (de_ps (cm_wI B 65 dd (-2)) 0 (-1) (Int32.ofNat dd) 0 0) (Int32.ofNat (150 * dd)) (-1)) 0) :
    cm_At (am_XX L xs) (d + 6) 58 0 [some (.ref 57), some (.ref c0), some (.int (Int32.ofNat dd)), none, none, none] [] S K := by
  have hcm : c0 ∈ cm_codes := by rcases hc with rfl | rfl <;> decide
  have hc2 : ¬ 58 = c0 ∧ c0 + 5 < 57 := by rcases hc with rfl | rfl <;> omega
  refine cx_58_0 hcm _ ?_
  intro S1 h1
  rw [h1]
  refine cx_114_0 ?_
  intro S2 h2
  rw [h2]
  intro S3 h3
  rw [h3]
  refine cp_r0 ?_
  have f1 : cf_W (fun b j => decide (b = 57 ∧ j = 5 ∨ b = 64 ∧ (j = 4 ∨ j = 8))) S (cm_wI (cm_wI (cm_wI S 57 5 (Int32.ofNat dd)) 64 4 9) 64 8 0) := cf_tr (cf_wI (decide_eq_true (by omega))) (cf_tr (cf_wI (decide_eq_true (by omega))) (cf_wI (decide_eq_true (by omega))))
  have v1 : (cm_wI (cm_wI (cm_wI S 57 5 (Int32.ofNat dd)) 64 4 9) 64 8 0).1 57 5 = Int32.ofNat dd ∧ (cm_wI (cm_wI (cm_wI S 57 5 (Int32.ofNat dd)) 64 4 9) 64 8 0).1 64 4 = Int32.ofNat 9 ∧ (cm_wI (cm_wI (cm_wI S 57 5 (Int32.ofNat dd)) 64 4 9) 64 8 0).1 64 8 = Int32.ofNat 0 := by
    refine ⟨by rw [cp_wI1, if_neg (by omega), cp_wI1, if_neg (by omega), cp_wI1, if_pos ⟨rfl, rfl⟩], by rw [cp_wI1, if_neg (by omega), cp_wI1, if_pos ⟨rfl, rfl⟩]; rfl, by rw [cp_wI1, if_pos ⟨rfl, rfl⟩]; rfl⟩
  generalize cm_wI (cm_wI (cm_wI S 57 5 (Int32.ofNat dd)) 64 4 9) 64 8 0 = B1 at f1 v1 ⊢
  simp only [dk_sh0]
  refine cp_58l hc hw 8 0 B1 _ _ none none rfl (ck_d_fr f1 (fun b j q1 q2 => decide_eq_false (by omega)) hd) (fun i hi => absurd hi (Nat.not_lt_zero i)) (fun B2 o4 o5 g2 f2 => ?_)
  refine cp_58m hc 6 0 B2 _ _ o4 o5 rfl (fun i hi => absurd hi (Nat.not_lt_zero i)) (fun B3 o4 o5 g3 f3 => ?_)
  refine cx_58_84 hcm _ _ _ _ ⟨fun hx => absurd hx (by decide), fun _ => ?_⟩
  intro S4 h4
  rw [h4]
  refine cx_107_0 ?_
  intro S5 h5
  rw [h5]
  intro S6 h6
  rw [h6]
  intro S7 h7
  rw [h7]
  refine cp_r0 ?_
  intro S8 h8
  rw [h8]
  have f4 : cf_W (fun b j => decide (b = 72 ∧ j = 4 ∨ b = 77 ∨ b = 57 ∧ j = 7)) B3 (cm_wI (cm_wJ (cm_wI (cm_wI (cm_wI B3 72 4 0) 77 1 0) 77 2 0) 77 3 7) 57 7 0) := cf_tr (cf_wI (decide_eq_true (by omega))) (cf_tr (cf_wI (decide_eq_true (by omega))) (cf_tr (cf_wI (decide_eq_true (by omega))) (cf_tr (cf_wJ (decide_eq_true (by omega))) (cf_wI (decide_eq_true (by omega))))))
  have v4 : (cm_wI (cm_wJ (cm_wI (cm_wI (cm_wI B3 72 4 0) 77 1 0) 77 2 0) 77 3 7) 57 7 0).1 72 4 = Int32.ofNat 0 ∧ (cm_wI (cm_wJ (cm_wI (cm_wI (cm_wI B3 72 4 0) 77 1 0) 77 2 0) 77 3 7) 57 7 0).1 77 1 = Int32.ofNat 0 ∧ (cm_wI (cm_wJ (cm_wI (cm_wI (cm_wI B3 72 4 0) 77 1 0) 77 2 0) 77 3 7) 57 7 0).1 77 2 = Int32.ofNat 0 ∧ (cm_wI (cm_wJ (cm_wI (cm_wI (cm_wI B3 72 4 0) 77 1 0) 77 2 0) 77 3 7) 57 7 0).2 77 3 = 7 ∧ (cm_wI (cm_wJ (cm_wI (cm_wI (cm_wI B3 72 4 0) 77 1 0) 77 2 0) 77 3 7) 57 7 0).1 57 7 = Int32.ofNat 0 := by
    refine ⟨?_, ?_, ?_, ?_, ?_⟩ <;> simp [cp_wI1, cp_wI2, cp_wJ1, cp_wJ2] <;> rfl
  generalize cm_wI (cm_wJ (cm_wI (cm_wI (cm_wI B3 72 4 0) 77 1 0) 77 2 0) 77 3 7) 57 7 0 = B at f4 v4 ⊢
  have hbA : dw_bA W dd B := by
    refine ⟨?_, ?_, ?_, fun i hi => ?_, fun i hi => ?_, v4.1, v4.2.1, v4.2.2.1, v4.2.2.2.1, v4.2.2.2.2⟩
    · rw [(f4 57 5 (decide_eq_false (by omega))).1, (f3 57 5 (decide_eq_false (by omega))).1, (f2 57 5 (decide_eq_false (by omega))).1]; exact v1.1
    · rw [(f4 64 4 (decide_eq_false (by omega))).1, (f3 64 4 (decide_eq_false (by omega))).1, (f2 64 4 (decide_eq_false (by omega))).1]; exact v1.2.1
    · rw [(f4 64 8 (decide_eq_false (by omega))).1, (f3 64 8 (decide_eq_false (by omega))).1, (f2 64 8 (decide_eq_false (by omega))).1]; exact v1.2.2
    · have e6 : ∀ b, 65 ≤ b → b ≤ 68 → B.1 b i = B2.1 b i := fun b q1 q2 => by
        rw [(f4 b i (decide_eq_false (by omega))).1, (f3 b i (decide_eq_false (by omega))).1]
      obtain ⟨g4, g5⟩ := g2 i hi
      refine ⟨fun hl => by rw [e6 65 (by omega) (by omega)]; exact g4 hl, fun hl => ?_⟩
      obtain ⟨g6, g7, g8, g9⟩ := g5 hl
      exact ⟨by rw [e6 65 (by omega) (by omega)]; exact g6, by rw [e6 66 (by omega) (by omega)]; exact g7, by rw [e6 67 (by omega) (by omega)]; exact g8, ck_t_cf f4 (fun b j q1 q2 _ _ => decide_eq_false (by omega)) (ck_t_cf f3 (fun b j q1 q2 _ _ => decide_eq_false (by omega)) g9)⟩
    · rw [(f4 79 i (decide_eq_false (by omega))).1]; exact g3 i hi
  have fB : cf_W (fun b _ => decide (57 ≤ b ∧ b ≤ 79)) S B := cf_tr (cf_mono f1 (fun b j h => decide_eq_true (by have h := of_decide_eq_true h; omega))) (cf_tr (cf_mono f2 (fun b j h => decide_eq_true (by have h := of_decide_eq_true h; omega))) (cf_tr (cf_mono f3 (fun b j h => decide_eq_true (by have h := of_decide_eq_true h; omega))) (cf_mono f4 (fun b j h => decide_eq_true (by have h := of_decide_eq_true h; omega)))))
  have hk := k B hbA fB
  obtain ⟨_, g65, g66, g67, _⟩ : True ∧ B.1 65 dd = -1 ∧ B.1 66 dd = Int32.ofNat (150 * dd) ∧ B.1 67 dd = -1 ∧ True := by
    obtain ⟨g1, g2, g3, _⟩ := (hbA.2.2.2.1 dd hdd).2 hne
    exact ⟨trivial, g1, g2, g3, trivial⟩
  refine cp_66 (nc := 9) (nf := 0) hbA.2.1 (by omega) v4.1 (by omega) (by omega) (cp_r0 ?_)
  unfold de_en
  rw [if_neg (by rw [g65]; decide), if_pos g65, g66, g67]
  exact hk
end CPa35
