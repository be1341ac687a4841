/-! ## a36 the model begins a run -/
def dw_bT (W : Nat → ct_T) (T : cm_S) (i : Nat) : Prop := (W i = .leaf → T.1 114 i = -1) ∧ (¬ W i = .leaf → T.1 114 i = Int32.ofNat (2400 + 150 * i) ∧ cl_t T (ct_pre (W i)) (Int32.ofNat (2400 + 150 * i)) (List.range' (2400 + 150 * i) (ct_sz (W i)))) ∧ T.1 115 i = -1 ∧ T.1 116 i = -1 ∧ T.1 117 i = 0
/-- what holds once the model has begun, ahead of asking for the definition -/
def dw_bS (W : Nat → ct_T) (T : cm_S) : Prop := T.1 83 41 = 1 ∧ T.1 83 42 = Int32.ofNat 0 ∧ T.1 83 45 = Int32.ofNat 8 ∧ T.1 83 50 = Int32.ofNat 0 ∧ T.1 83 54 = Int32.ofNat 0 ∧ T.1 83 59 = Int32.ofNat 0 ∧ T.1 83 67 = Int32.ofNat 0 ∧ T.1 83 68 = Int32.ofNat 0 ∧ T.1 83 44 = -1 ∧ T.2 83 71 = 7 ∧ (∀ i, i < 6 → T.1 128 i = 0) ∧ ∀ i, i < 8 → dw_bT W T i
def dw_Wl (b j : Nat) : Bool := decide (92 ≤ b ∧ b ≤ 98 ∧ 2400 ≤ j ∧ j < 3600 ∨ b = 83 ∧ (j = 17 ∨ j = 19 ∨ j = 20 ∨ j = 23 ∨ j = 45) ∨ b = 100 ∨ b = 101 ∨ 114 ≤ b ∧ b ≤ 117)
def dw_Wm (b j : Nat) : Bool := decide (92 ≤ b ∧ b ≤ 98 ∧ 2400 ≤ j ∧ j < 3600 ∨ b = 83 ∧ (j = 17 ∨ j = 19 ∨ j = 20 ∨ j = 23 ∨ 40 ≤ j ∧ j ≤ 75) ∨ b = 100 ∨ b = 101 ∨ 114 ≤ b ∧ b ≤ 129)
theorem dw_bT_cf {W : Nat → ct_T} {Q : Nat → Nat → Bool} {T T2 : cm_S} {i : Nat} (hw : ct_wf (W i) ∧ ct_sz (W i) ≤ 150) (hc : cf_W Q T T2) (h1 : ∀ b, 114 ≤ b → b ≤ 117 → Q b i = false) (h2 : ∀ b x, 92 ≤ b → b ≤ 98 → 2400 + 150 * i ≤ x → x < 2400 + 150 * i + 150 → Q b x = false) (h : dw_bT W T i) : dw_bT W T2 i := by
  obtain ⟨g1, g2, g3, g4, g5⟩ := h
  refine ⟨fun hl => by rw [(hc 114 i (h1 _ (by omega) (by omega))).1]; exact g1 hl, fun hl => ?_, by rw [(hc 115 i (h1 _ (by omega) (by omega))).1]; exact g3, by rw [(hc 116 i (h1 _ (by omega) (by omega))).1]; exact g4, by rw [(hc 117 i (h1 _ (by omega) (by omega))).1]; exact g5⟩
  obtain ⟨g6, g7⟩ := g2 hl
  refine ⟨by rw [(hc 114 i (h1 _ (by omega) (by omega))).1]; exact g6, cl_t_cf hc _ (ct_map_wf _ hw.1) _ _ (fun b x q1 q2 hx => ?_) g7⟩
  have := ct_range hw.2 x hx
  exact h2 b x q1 q2 (by omega) (by omega)
section CPa36
variable {L : Nat} {xs : Nat → Int32} {d : Nat} {W : Nat → ct_T} {S : cm_S} {K : cm_K} {dd : Nat}
theorem cp_174s {p : Int32} (k1 : 1 ≤ p.toInt ∧ p.toInt ≤ 1000 → K (.inl (some (.int 1))) S 0) (k2 : ¬ (1 ≤ p.toInt ∧ p.toInt ≤ 1000) → K (.inl (some (.int 0))) S 0) : cm_At (am_XX L xs) (d + 1) 174 0 [some (.int p), some (.int 1), some (.int 1000)] [] S K := by
  have e1 : ((1 : Int32) ≤ p) ↔ 1 ≤ p.toInt := by rw [Int32.le_iff_toInt_le, show (1 : Int32).toInt = 1 from rfl]
  have e2 : (p ≤ (1000 : Int32)) ↔ p.toInt ≤ 1000 := by rw [Int32.le_iff_toInt_le, show (1000 : Int32).toInt = 1000 from rfl]
  have e3 : (p < (1 : Int32)) ↔ p.toInt < 1 := by rw [Int32.lt_iff_toInt_lt, show (1 : Int32).toInt = 1 from rfl]
  have e4 : ((1000 : Int32) < p) ↔ 1000 < p.toInt := by rw [Int32.lt_iff_toInt_lt, show (1000 : Int32).toInt = 1000 from rfl]
  refine cx_174_0 _ _ _ ?_
  refine ⟨fun h => ⟨Or.inl rfl, k2 (fun hc => by rw [e3] at h; omega)⟩, fun h => ⟨fun h2 => ⟨Or.inl rfl, k2 (fun hc => by rw [e4] at h2; omega)⟩, fun h2 => ⟨Or.inr rfl, k1 ⟨by rw [e3] at h; omega, by rw [e4] at h2; omega⟩⟩⟩⟩
end CPa36
section CPa36b
variable {L : Nat} {xs : Nat → Int32} {d : Nat} {W : Nat → ct_T} {dd sl pl : Nat} {q3 : Int32}
theorem cp_264l (hq : q3 = 0 ∧ sl = 8 ∧ pl = 1200 ∨ q3 = 1 ∧ sl = 0 ∧ pl = 0) (hds : ct_ds W) (hwf : ∀ i, i < 8 → ct_wf (W i) ∧ ct_sz (W i) ≤ 150) : ∀ (m n c : Nat) (T : cm_S) (K : cm_K) (q1 q2 : Int32) (o5 o6 : Option Value), n + m = 8 → cl_d T sl pl W → cl_i T W → cl_cs T c → c + m < 2000000000 → T.1 83 45 = Int32.ofNat n → (∀ i, i < n → dw_bT W T i) →
    (∀ T2 c2 o5 o6, T2.1 83 45 = Int32.ofNat 8 → (∀ i, i < 8 → dw_bT W T2 i) → cl_cs T2 c2 → c ≤ c2 → c2 ≤ c + m → cf_W dw_Wl T T2 → cm_At (am_XX L xs) (d + 160) 264 109 [some (.ref 83), some (.int q1), some (.int q2), some (.int q3), some (.int (Int32.ofNat 8)), o5, o6] [] T2 K) →
    cm_At (am_XX L xs) (d + 160) 264 109 [some (.ref 83), some (.int q1), some (.int q2), some (.int q3), some (.int (Int32.ofNat n)), o5, o6] [] T K
  | 0, n, c, T, K, q1, q2, o5, o6, hn, hd, hi, hcs, hcb, h45, hf, k => by
    have hn8 : n = 8 := by omega
    subst hn8
    exact k T c _ _ h45 hf hcs (Nat.le_refl _) (by omega) cf_rfl
  | m + 1, n, c, T, K, q1, q2, o5, o6, hn, hd, hi, hcs, hcb, h45, hf, k => by
    obtain ⟨w1, w2⟩ := hwf n (by omega)
    -- what is left once the cell is made
    have go : ∀ (T1 : cm_S) (c1 : Nat) (x : Int32) (o5 o6 : Option Value), (W n = .leaf → x = -1) → (¬ W n = .leaf → x = Int32.ofNat (2400 + 150 * n) ∧ cl_t T1 (ct_pre (W n)) (Int32.ofNat (2400 + 150 * n)) (List.range' (2400 + 150 * n) (ct_sz (W n)))) → cf_W (fun b j => decide (92 ≤ b ∧ b ≤ 98 ∧ 2400 + 150 * n ≤ j ∧ j < 2400 + 150 * n + 150 ∨ b = 83 ∧ (j = 17 ∨ j = 19 ∨ j = 20 ∨ j = 23) ∨ b = 100 ∨ b = 101)) T T1 → cl_cs T1 c1 → c ≤ c1 → c1 ≤ c + 1 → cm_At (am_XX L xs) (d + 160) 264 109 [some (.ref 83), some (.int q1), some (.int q2), some (.int q3), some (.int (Int32.ofNat (n + 1))), o5, o6] [] (me_cl T1 n x (-1)) K := fun T1 c1 x o5 o6 s1 s2 f1 cs1 l1 l2 => by
      obtain ⟨v1, v2, v3, v4, v5⟩ := me_cl_at (S := T1) (k := n) (q := x) (s := -1)
      have f2 := me_cl_cf (S := T1) (k := n) (q := x) (s := -1)
      have f12 : cf_W dw_Wl T (me_cl T1 n x (-1)) := cf_tr (cf_mono f1 (fun b j h => decide_eq_true (by have h := of_decide_eq_true h; omega))) (cf_mono f2 (fun b j h => decide_eq_true (by have h := of_decide_eq_true h; omega)))
      refine cp_264l hq hds hwf m (n + 1) c1 _ K q1 q2 o5 o6 (by omega) ?_ ?_ (cl_cs_f f2 (decide_eq_false (by omega)) (fun j => decide_eq_false (by omega)) cs1) (by omega) v5 (fun i hin => ?_) (fun T3 c3 o5 o6 g1 g2 g3 g4 g5 g6 => k T3 c3 o5 o6 g1 g2 g3 (by omega) (by omega) (cf_tr f12 g6))
      · exact cl_d_fr hds f12 (fun j hj => decide_eq_false (by omega)) (fun b y q1 q2 q3 q4 => decide_eq_false (by omega)) hd
      · exact cl_i_cf f12 (fun j => decide_eq_false (by omega)) hi
      · by_cases hie : i = n
        · subst hie
          refine ⟨fun hl => by rw [v1]; exact s1 hl, fun hl => ?_, v2, v3, v4⟩
          obtain ⟨s3, s4⟩ := s2 hl
          refine ⟨by rw [v1]; exact s3, cl_t_cf f2 _ (ct_map_wf _ w1) _ _ (fun b y q1 q2 hy => decide_eq_false (by omega)) s4⟩
        · have hwi := hwf i (by omega)
          exact dw_bT_cf hwi f2 (fun b q1 q2 => decide_eq_false (by omega)) (fun b y q1 q2 q3 q4 => decide_eq_false (by omega)) (dw_bT_cf hwi f1 (fun b q1 q2 => decide_eq_false (by omega)) (fun b y q1 q2 q3 q4 => decide_eq_false (by omega)) (hf i (by omega)))
    refine cx_264_109 _ _ _ _ _ _ ⟨fun _ => ?_, fun h => absurd (by rw [show (8 : Int32) = Int32.ofNat 8 from rfl, cp_lt (by omega) (by omega)]; omega) h⟩
    refine ⟨cp_in (by omega) (by decide), ?_⟩
    rw [cp_cl (n := n) (by omega)]
    intro x9 h9
    rw [h9, show Int32.ofNat n + 1 = Int32.ofNat (n + 1) from cp_ad (b := 1)]
    by_cases hl : W n = .leaf
    · rw [(hi n (by omega)).1 hl]
      refine ⟨fun _ => ?_, fun hc => absurd rfl hc⟩
      refine cp_249 (k := n) h45 (by omega) (cp_r1 ?_)
      simp only [dk_sh0]
      exact go T c (-1) _ _ (fun _ => rfl) (fun hx => absurd hl hx) cf_rfl hcs (Nat.le_refl _) (by omega)
    · rw [(hi n (by omega)).2 hl]
      refine ⟨fun hc => absurd hc (by decide), fun _ => ?_⟩
      obtain ⟨hco, hcan⟩ := hds n (by omega) hl
      obtain ⟨p1, p2, p3⟩ := ct_pre_co hco
      have hsz : ct_sz (ct_pre (W n)) = ct_sz (W n) := ct_map_sz _
      have hlen := ct_co_len p1
      obtain ⟨r1, r2⟩ := hd n (by omega) hl
      have hpl : (2400 : Int32) + (150 : Int32) * Int32.ofNat n = Int32.ofNat (2400 + 150 * n) := by
        rw [show (150 : Int32) = Int32.ofNat 150 from rfl, show (2400 : Int32) = Int32.ofNat 2400 from rfl, cp_ml, cp_ad]
      have fin : ∀ (K2 : cm_K), (∀ T1 q, q = Int32.ofNat (2400 + 150 * n) → cl_t T1 (ct_pre (W n)) (Int32.ofNat (2400 + 150 * n)) (List.range' (2400 + 150 * n) (ct_sz (W n))) → cl_cs T1 (c + 1) → cf_W (fun b j => decide (92 ≤ b ∧ b ≤ 98 ∧ 2400 + 150 * n ≤ j ∧ j < 2400 + 150 * n + 150 ∨ b = 83 ∧ (j = 17 ∨ j = 19 ∨ j = 20 ∨ j = 23) ∨ b = 100 ∨ b = 101)) T T1 → K2 (.inl (some (.int q))) T1 0) → cm_At (am_XX L xs) (d + 159) 203 0 [some (.ref 83), some (.int (Int32.ofNat (pl + 150 * n))), some (.int (Int32.ofNat (2400 + 150 * n)))] [] T K2 := fun K2 hk => by
        refine cp_203D (by omega) (ct_co_gd p1) (by omega) r2 (by omega) (fun x g1 g2 hx => ?_) hcs (by omega) (fun T1 q t1 a1 v1 cs1 f1 => ?_)
        · have := ct_range w2 x hx
          rcases hq with hq | hq <;> omega
        · rw [p3, hsz] at t1
          rw [hsz] at f1
          have hqq := cl_t_q (ct_pre (W n)) p1.1 (by rw [hsz]; exact ct_sz_ne w1 hl) (by rw [hsz]; exact t1)
          rw [hqq] at t1
          refine hk T1 q hqq t1 cs1 (cf_mono f1 (fun b j h => decide_eq_true (by
            have h := of_decide_eq_true h
            rcases h with h | h
            · have := ct_range w2 j h.2.2; omega
            · exact Or.inr h)))
      rcases hq with ⟨hq3, hsl, hpl2⟩ | ⟨hq3, hsl, hpl2⟩
      · subst hq3
        subst hsl
        refine ⟨fun _ => ?_, fun hc => absurd rfl hc⟩
        rw [show (8 : Int32) = Int32.ofNat 8 from rfl, cp_ad, cp_cl (n := 8 + n) (by omega)]
        refine ⟨cp_in (by omega) (by decide), ?_⟩
        intro x14 h14
        rw [h14, r1, hpl]
        refine fin _ (fun T1 q hqq t1 cs1 f1 => cp_r1 ?_)
        refine cp_249 (k := n) ((f1 83 45 (decide_eq_false (by omega))).1.trans h45) (by omega) (cp_r1 ?_)
        simp only [dk_sh0]
        exact go T1 (c + 1) q _ _ (fun hx => absurd hx hl) (fun _ => ⟨hqq, t1⟩) f1 cs1 (by omega) (Nat.le_refl _)
      · subst hq3
        subst hsl
        refine ⟨fun hc => absurd hc (by decide), fun _ => ?_⟩
        rw [show (0 : Int32) + Int32.ofNat n = Int32.ofNat (0 + n) from cp_ad (a := 0), cp_cl (n := 0 + n) (by omega)]
        refine ⟨cp_in (by omega) (by decide), ?_⟩
        intro x14 h14
        rw [h14, r1, hpl]
        refine fin _ (fun T1 q hqq t1 cs1 f1 => cp_r1 ?_)
        refine cp_249 (k := n) ((f1 83 45 (decide_eq_false (by omega))).1.trans h45) (by omega) (cp_r1 ?_)
        simp only [dk_sh0]
        exact go T1 (c + 1) q _ _ (fun hx => absurd hx hl) (fun _ => ⟨hqq, t1⟩) f1 cs1 (by omega) (Nat.le_refl _)
theorem cp_264m : ∀ (m n : Nat) (T : cm_S) (K : cm_K) (q1 q2 : Int32), n + m = 6 → (∀ i, i < n → T.1 128 i = 0) → (∀ T2, (∀ i, i < 6 → T2.1 128 i = 0) → cf_W (fun b _ => decide (b = 128)) T T2 → cm_At (am_XX L xs) (d + 160) 264 109 [some (.ref 83), some (.int q1), some (.int q2), some (.int q3), some (.int 0), none, none] [] T2 K) → cm_At (am_XX L xs) (d + 160) 264 85 [some (.ref 83), some (.int q1), some (.int q2), some (.int q3), some (.int (Int32.ofNat n)), none, none] [] T K
  | 0, n, T, K, q1, q2, hn, hi, k => by
    have hn6 : n = 6 := by omega
    subst hn6
    exact cx_264_85 _ _ _ _ ⟨fun h => absurd h (by decide), fun _ => k T hi cf_rfl⟩
  | m + 1, n, T, K, q1, q2, hn, hi, k => by
    refine cx_264_85 _ _ _ _ ⟨fun _ => ?_, fun h => absurd (by rw [show (6 : Int32) = Int32.ofNat 6 from rfl, cp_lt (by omega) (by omega)]; omega) h⟩
    refine ⟨cp_in (by omega) (by decide), ?_⟩
    rw [cp_cl (n := n) (by omega), show Int32.ofNat n + 1 = Int32.ofNat (n + 1) from cp_ad (b := 1)]
    intro S1 h1
    rw [h1]
    have f1 : cf_W (fun b _ => decide (b = 128)) T (cm_wI T 128 n 0) := cf_wI (decide_eq_true rfl)
    refine cp_264m m (n + 1) _ K q1 q2 (by omega) (fun i hin => ?_) (fun T3 g1 g2 => k T3 g1 (cf_tr f1 g2))
    rw [cp_wI1]
    by_cases hie : i = n
    · rw [if_pos ⟨rfl, hie⟩]
    · rw [if_neg (fun hx => hie hx.2)]; exact hi i (by omega)
/-- the model's state once it is asked for the definition -/
def dw_bs (W : Nat → ct_T) (dd : Nat) (T : cm_S) : cm_S := me_ev (me_ws (cm_wI T 117 dd 1) 0 0 (Int32.ofNat dd) (-1)) (Int32.ofNat (2400 + 150 * dd)) (-1)
/-- the model begins, up to the loop -/
theorem cp_264b {S : cm_S} {K : cm_K} {c : Nat} {q2 : Int32} (hq : q3 = 0 ∧ sl = 8 ∧ pl = 1200 ∨ q3 = 1 ∧ sl = 0 ∧ pl = 0) (hds : ct_ds W) (hwf : ∀ i, i < 8 → ct_wf (W i) ∧ ct_sz (W i) ≤ 150) (hd : cl_d S sl pl W) (hi : cl_i S W) (hcs : cl_cs S c) (hcb : c + 8 < 2000000000) (hdd : dd < 8) (hne : ¬ W dd = .leaf)
    (k : ∀ T c2, dw_bS W T → cl_cs T c2 → c ≤ c2 → c2 ≤ c + 8 → cf_W dw_Wm S T → T.1 83 75 = S.1 83 75 → cm_At (am_XX L xs) (d + 159) 263 0 [some (.ref 83), some (.int q2)] [] (dw_bs W dd T) (fun r S5 k6 => cm_r1 (fun x8 => cm_sh K k6 (.inl (some (.int x8))) S5 0) (fun e7 => K (.inr e7) S5 k6) r)) :
    cm_At (am_XX L xs) (d + 160) 264 85 [some (.ref 83), some (.int (Int32.ofNat dd)), some (.int q2), some (.int q3), some (.int 0), none, none] [] (cm_wI (cm_wI (cm_wI (cm_wI (cm_wI (cm_wI (cm_wI (cm_wI (cm_wI S 83 41 1) 83 42 0) 83 45 0) 83 50 0) 83 54 0) 83 59 0) 83 67 0) 83 68 0) 83 44 (-1)) K := by
  have f1 : cf_W (fun b j => decide (b = 83 ∧ 41 ≤ j ∧ j ≤ 68)) S (cm_wI (cm_wI (cm_wI (cm_wI (cm_wI (cm_wI (cm_wI (cm_wI (cm_wI S 83 41 1) 83 42 0) 83 45 0) 83 50 0) 83 54 0) 83 59 0) 83 67 0) 83 68 0) 83 44 (-1)) := cf_tr (cf_wI (decide_eq_true (by omega))) (cf_tr (cf_wI (decide_eq_true (by omega))) (cf_tr (cf_wI (decide_eq_true (by omega))) (cf_tr (cf_wI (decide_eq_true (by omega))) (cf_tr (cf_wI (decide_eq_true (by omega))) (cf_tr (cf_wI (decide_eq_true (by omega))) (cf_tr (cf_wI (decide_eq_true (by omega))) (cf_tr (cf_wI (decide_eq_true (by omega))) (cf_wI (decide_eq_true (by omega))))))))))
  have v1 : ∀ T, T = cm_wI (cm_wI (cm_wI (cm_wI (cm_wI (cm_wI (cm_wI (cm_wI (cm_wI S 83 41 1) 83 42 0) 83 45 0) 83 50 0) 83 54 0) 83 59 0) 83 67 0) 83 68 0) 83 44 (-1) → T.1 83 41 = 1 ∧ T.1 83 42 = 0 ∧ T.1 83 45 = 0 ∧ T.1 83 50 = 0 ∧ T.1 83 54 = 0 ∧ T.1 83 59 = 0 ∧ T.1 83 67 = 0 ∧ T.1 83 68 = 0 ∧ T.1 83 44 = -1 := fun T hT => by
    rw [hT]
    refine ⟨?_, ?_, ?_, ?_, ?_, ?_, ?_, ?_, ?_⟩ <;> simp [cp_wI1]
  have v1 := v1 _ rfl
  generalize cm_wI (cm_wI (cm_wI (cm_wI (cm_wI (cm_wI (cm_wI (cm_wI (cm_wI S 83 41 1) 83 42 0) 83 45 0) 83 50 0) 83 54 0) 83 59 0) 83 67 0) 83 68 0) 83 44 (-1) = T1 at f1 v1 ⊢
  obtain ⟨v41, v42, v45, v50, v54, v59, v67, v68, v44⟩ := v1
  refine cp_264m 6 0 T1 K _ q2 rfl (fun i hi => absurd hi (Nat.not_lt_zero i)) (fun T2 g2 f2 => ?_)
  have f12 : cf_W (fun b j => decide (b = 83 ∧ 41 ≤ j ∧ j ≤ 68 ∨ b = 128)) S T2 := cf_tr (cf_mono f1 (fun b j h => decide_eq_true (by have h := of_decide_eq_true h; omega))) (cf_mono f2 (fun b j h => decide_eq_true (by have h := of_decide_eq_true h; omega)))
  refine cp_264l hq hds hwf 8 0 c T2 K _ q2 none none rfl (cl_d_fr hds f12 (fun j hj => decide_eq_false (by omega)) (fun b y q1 q2 q3 q4 => decide_eq_false (by omega)) hd) (cl_i_cf f12 (fun j => decide_eq_false (by omega)) hi) (cl_cs_f f12 (decide_eq_false (by omega)) (fun j => decide_eq_false (by omega)) hcs) hcb ((f2 83 45 (decide_eq_false (by omega))).1.trans v45) (fun i hi => absurd hi (Nat.not_lt_zero i)) (fun T3 c3 o5 o6 h45 g3 cs3 l1 l2 f3 => ?_)
  refine cx_264_109 _ _ _ _ _ _ ⟨fun h => absurd h (by decide), fun _ => ?_⟩
  intro S4 h4
  rw [h4]
  have e3 : ∀ j, ¬ (j = 17 ∨ j = 19 ∨ j = 20 ∨ j = 23 ∨ j = 45) → (cm_wJ T3 83 71 7).1 83 j = T1.1 83 j := fun j hj => by
    rw [cp_wJ1, (f3 83 j (decide_eq_false (by omega))).1, (f2 83 j (decide_eq_false (by omega))).1]
  have f4 : cf_W (fun b j => decide (b = 83 ∧ j = 71)) T3 (cm_wJ T3 83 71 7) := cf_wJ (decide_eq_true ⟨rfl, rfl⟩)
  have hbS : dw_bS W (cm_wJ T3 83 71 7) := by
    refine ⟨by rw [e3 41 (by omega)]; exact v41, by rw [e3 42 (by omega)]; exact v42, by rw [cp_wJ1]; exact h45, by rw [e3 50 (by omega)]; exact v50, by rw [e3 54 (by omega)]; exact v54, by rw [e3 59 (by omega)]; exact v59, by rw [e3 67 (by omega)]; exact v67, by rw [e3 68 (by omega)]; exact v68, by rw [e3 44 (by omega)]; exact v44, by rw [cp_wJ2, if_pos ⟨rfl, rfl⟩], fun i hi => ?_, fun i hi => dw_bT_cf (hwf i hi) f4 (fun b q1 q2 => decide_eq_false (by omega)) (fun b y q1 q2 q3 q4 => decide_eq_false (by omega)) (g3 i hi)⟩
    rw [cp_wJ1, (f3 128 i (decide_eq_false (by omega))).1]
    exact g2 i hi
  have hk := k (cm_wJ T3 83 71 7) c3 hbS (cl_cs_f f4 (decide_eq_false (by omega)) (fun j => decide_eq_false (by omega)) cs3) l1 l2 (cf_tr (cf_mono f12 (fun b j h => decide_eq_true (by have h := of_decide_eq_true h; omega))) (cf_tr (cf_mono f3 (fun b j h => decide_eq_true (by have h := of_decide_eq_true h; omega))) (cf_mono f4 (fun b j h => decide_eq_true (by have h := of_decide_eq_true h; omega))))) (by rw [e3 75 (by omega), (f1 83 75 (decide_eq_false (by omega))).1])
  generalize cm_wJ T3 83 71 7 = T at hbS hk ⊢
  obtain ⟨_, _, _, _, _, b59, _, _, _, _, _, bT⟩ := hbS
  obtain ⟨t1, t2, t3, t4, t5⟩ := bT dd hdd
  refine cp_256 (nf := 0) (d := d + 157) b59 (by omega) (by omega) (cp_r0 ?_)
  unfold me_as
  rw [if_pos t4, if_pos t5, (t2 hne).1, t3]
  simp only [dk_sh0]
  exact hk
end CPa36b
