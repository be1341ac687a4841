/-! ## 58 the model reads a node: what binds -/
theorem cl_rs_row {N : List ct_E} {B : List Int32} {S : cm_S} {σ : Int32 → Int32} {nx m i : Nat} {e : ct_E} (h : cl_rs N B S σ nx m) (he : N[i]? = some e) : S.1 84 i = e.1 ∧ S.2 85 i = e.2.1 ∧ S.1 86 i = ct_nm e.1 e.2.2.1 e.2.2.2.1 ∧ S.1 87 i = e.2.2.2.2.1 ∧ S.1 88 i = e.2.2.2.2.2.1 ∧ S.1 89 i = e.2.2.2.2.2.2.1 ∧ S.1 90 i = Int32.ofNat e.2.2.2.2.2.2.2 := h.1.2.2 i e he
theorem cl_sg_97 {S : cm_S} {nx : Nat} {e1 x3 x4 x : Int32} {e2 : Int64} {a b c : ct_T} {fa fb fc : List Nat} (wa : ct_wf a) (wb : ct_wf b) (wc : ct_wf c) (hf : ∀ x, x ∈ fa ∨ x ∈ fb ∨ x ∈ fc → ¬ x = nx) (h : cl_sg S nx (e1, e2, x3, x4) a fa b fb c fc) : cl_sg (cm_wI S 97 nx x) nx (e1, e2, x, x4) a fa b fb c fc := by
  obtain ⟨g1, g2, g3, g4⟩ := h
  have hc : cf_W (fun b j => decide (b = 97 ∧ j = nx)) S (cm_wI S 97 nx x) := cf_wI (decide_eq_true ⟨rfl, rfl⟩)
  have hn : ∀ (r x : Nat), ¬ x = nx → (decide (r = 97 ∧ x = nx)) = false := fun r x h => decide_eq_false (fun hc => h hc.2)
  have hr : ∀ r : Nat, ¬ r = 97 → (decide (r = 97 ∧ nx = nx)) = false := fun r h => decide_eq_false (fun hc => h hc.1)
  injection g1 with q1 q2
  injection q2 with q2 q3
  injection q3 with q3 q4
  refine ⟨?_, ?_, ?_, ?_⟩
  · rw [(hc 92 nx (hr _ (by omega))).1, (hc 93 nx (hr _ (by omega))).2, (hc 98 nx (hr _ (by omega))).1, cp_wI1, if_pos ⟨rfl, rfl⟩, q1, q2, q4]
  · rw [(hc 94 nx (hr _ (by omega))).1]; exact cl_t_cf hc a wa _ _ (fun r x _ _ q => hn r x (hf x (Or.inl q))) g2
  · rw [(hc 95 nx (hr _ (by omega))).1]; exact cl_t_cf hc b wb _ _ (fun r x _ _ q => hn r x (hf x (Or.inr (Or.inl q)))) g3
  · rw [(hc 96 nx (hr _ (by omega))).1]; exact cl_t_cf hc c wc _ _ (fun r x _ _ q => hn r x (hf x (Or.inr (Or.inr q)))) g4
theorem cl_sg_98 {S : cm_S} {nx : Nat} {e1 x3 x4 x : Int32} {e2 : Int64} {a b c : ct_T} {fa fb fc : List Nat} (wa : ct_wf a) (wb : ct_wf b) (wc : ct_wf c) (hf : ∀ x, x ∈ fa ∨ x ∈ fb ∨ x ∈ fc → ¬ x = nx) (h : cl_sg S nx (e1, e2, x3, x4) a fa b fb c fc) : cl_sg (cm_wI S 98 nx x) nx (e1, e2, x3, x) a fa b fb c fc := by
  obtain ⟨g1, g2, g3, g4⟩ := h
  have hc : cf_W (fun b j => decide (b = 98 ∧ j = nx)) S (cm_wI S 98 nx x) := cf_wI (decide_eq_true ⟨rfl, rfl⟩)
  have hn : ∀ (r x : Nat), ¬ x = nx → (decide (r = 98 ∧ x = nx)) = false := fun r x h => decide_eq_false (fun hc => h hc.2)
  have hr : ∀ r : Nat, ¬ r = 98 → (decide (r = 98 ∧ nx = nx)) = false := fun r h => decide_eq_false (fun hc => h hc.1)
  injection g1 with q1 q2
  injection q2 with q2 q3
  injection q3 with q3 q4
  refine ⟨?_, ?_, ?_, ?_⟩
  · rw [(hc 92 nx (hr _ (by omega))).1, (hc 93 nx (hr _ (by omega))).2, (hc 97 nx (hr _ (by omega))).1, cp_wI1, if_pos ⟨rfl, rfl⟩, q1, q2, q3]
  · rw [(hc 94 nx (hr _ (by omega))).1]; exact cl_t_cf hc a wa _ _ (fun r x _ _ q => hn r x (hf x (Or.inl q))) g2
  · rw [(hc 95 nx (hr _ (by omega))).1]; exact cl_t_cf hc b wb _ _ (fun r x _ _ q => hn r x (hf x (Or.inr (Or.inl q)))) g3
  · rw [(hc 96 nx (hr _ (by omega))).1]; exact cl_t_cf hc c wc _ _ (fun r x _ _ q => hn r x (hf x (Or.inr (Or.inr q)))) g4
theorem cl_sg_wo {S : cm_S} {nx r j : Nat} {x : Int32} {e : ct_D} {a b c : ct_T} {fa fb fc : List Nat} (wa : ct_wf a) (wb : ct_wf b) (wc : ct_wf c) (hr : ¬ (92 ≤ r ∧ r ≤ 98)) (h : cl_sg S nx e a fa b fb c fc) : cl_sg (cm_wI S r j x) nx e a fa b fb c fc :=
  cl_sg_fr (W := fun b _ => decide (b = r)) wa wb wc (cf_wI (decide_eq_true rfl)) (fun b q1 q2 => decide_eq_false (by omega)) (fun b _ q1 q2 _ => decide_eq_false (by omega)) h
theorem ct_us_ne {σ : Int32 → Int32} {u v : Nat} {y : Int32} (hu : u < 26) (hv : v < 26) (h : ¬ u = v) : ct_us σ (Int32.ofNat v) y (Int32.ofNat u) = σ (Int32.ofNat u) := by
  unfold ct_us
  rw [if_neg (cp_m1 (by omega)), if_neg (fun hc => h ((cp_inj (by omega) (by omega)).mp hc))]
/-- a name is what it was -/
theorem cl_rs_bk {N : List ct_E} {B : List Int32} {S S9 : cm_S} {σ : Int32 → Int32} {nx m nx2 m2 v : Nat} {y : Int32} (hv : v < 26) (hs : cl_rs N B S σ nx m) (h : cl_rs N B S9 (ct_us σ (Int32.ofNat v) y) nx2 m2) : cl_rs N B (cm_wI S9 91 v (S.1 91 v)) σ nx2 m2 :=
  cl_rs_91 (fun u hu => by
    by_cases huv : u = v
    · rw [if_pos huv, huv]; exact hs.2.2.2.1 v hv
    · rw [if_neg huv, h.2.2.2.1 u hu, ct_us_ne hu hv huv]) h
section CP58
variable {L : Nat} {xs : Nat → Int32} {N : List ct_E} {B : List Int32}
theorem cp_195n {d m : Nat} {S : cm_S} {K : cm_K} (h : S.1 83 20 = Int32.ofNat m) (k : K (.inl (some (.int (Int32.ofNat m)))) (cm_wI S 83 20 (Int32.ofNat (m + 1))) 0) : cm_At (am_XX L xs) (d + 1) 195 0 [some (.ref 83)] [] S K := by
  refine cx_195_0 ?_
  rintro _ rfl
  rw [h, show Int32.ofNat m + 1 = Int32.ofNat (m + 1) from cp_ad (b := 1)]
  rintro _ rfl
  rintro _ rfl
  rw [cp_wI1, if_pos ⟨rfl, rfl⟩, cp_s1]
  exact k
theorem cp_197 {σ : Int32 → Int32} {i y p0 e1 x3 x4 : Int32} {e2 : Int64} {t a b c : ct_T} {fa fb fc : List Nat} {D nx lo v : Nat} {S : cm_S} {P R : List Int32} {K : cm_K} (hnd : B.Nodup) (ih : cl_rd L xs N B i (ct_us σ (Int32.ofNat v) y) t) (wt : ct_wf t) (wa : ct_wf a) (wb : ct_wf b) (wc : ct_wf c) (hD : 2 * ct_sz t + 4 ≤ D) (hv : v < 26) (hB : B = P ++ (y :: (ct_bo t ++ R))) (hcap : lo + ct_sz t ≤ 8192) (hs : cl_rs N B S σ lo P.length) (hg : cl_sg S nx (e1, e2, x3, x4) a fa b fb c fc) (hlo : nx < lo) (hf : ∀ x, x ∈ fa ∨ x ∈ fb ∨ x ∈ fc → nx < x ∧ x < lo) (hn : nx < 8192)
    (k : ∀ S3 q, cl_t S3 (ct_map (ct_fr 0 B) t) q (List.range' lo (ct_sz t)) → cl_rs N B S3 σ (lo + ct_sz t) (P.length + 1 + (ct_bo t).length) → cl_sg S3 nx (e1, e2, Int32.ofNat P.length, x4) a fa b fb c fc → cl_fg (ct_fx t) (S.1 83 9) (S3.1 83 9) → cf_W (cW_rd nx (lo + ct_sz t - nx)) S S3 → K (.inl (some (.int q))) S3 0) :
    cm_At (am_XX L xs) D 197 0 [some (.ref 83), some (.int p0), some (.int (Int32.ofNat v)), some (.int (Int32.ofNat nx)), some (.int i), none, none] [] S K := by
  obtain ⟨D, rfl⟩ : ∃ d, D = d + 2 := ⟨D - 2, by omega⟩
  refine cx_197_0 _ _ _ _ ?_
  rw [cp_cl (show v < 2147483648 by omega), cp_cl (show nx < 2147483648 by omega)]
  refine ⟨cp_in hv (by decide), ?_⟩
  rintro _ rfl
  refine cp_195n hs.2.2.1 (cp_r1 ⟨cp_in hn (by decide), ?_⟩)
  rintro _ rfl
  refine ⟨cp_in hn (by decide), ?_⟩
  rintro _ rfl
  refine ⟨cp_in hv (by decide), ?_⟩
  rw [show (cm_wI (cm_wI S 83 20 (Int32.ofNat (P.length + 1))) 97 nx (Int32.ofNat P.length)).1 97 nx = Int32.ofNat P.length from by rw [cp_wI1, if_pos ⟨rfl, rfl⟩]]
  rintro _ rfl
  have s8 : cl_rs N B (cm_wI (cm_wI (cm_wI S 83 20 (Int32.ofNat (P.length + 1))) 97 nx (Int32.ofNat P.length)) 91 v (Int32.ofNat P.length)) (ct_us σ (Int32.ofNat v) y) lo (P ++ [y]).length := by
    rw [List.length_append, List.length_singleton]
    exact cl_rs_us hnd hB hv (cl_rs_w (by omega) (by omega) (cl_rs_20 hs))
  have g8 : cl_sg (cm_wI (cm_wI (cm_wI S 83 20 (Int32.ofNat (P.length + 1))) 97 nx (Int32.ofNat P.length)) 91 v (Int32.ofNat P.length)) nx (e1, e2, Int32.ofNat P.length, x4) a fa b fb c fc := cl_sg_wo wa wb wc (by omega) (cl_sg_97 wa wb wc (fun x hx => by have := hf x hx; omega) (cl_sg_wo wa wb wc (by omega) hg))
  have c8 : cf_W (cW_rd nx (lo + ct_sz t - nx)) S (cm_wI (cm_wI (cm_wI S 83 20 (Int32.ofNat (P.length + 1))) 97 nx (Int32.ofNat P.length)) 91 v (Int32.ofNat P.length)) := cf_tr (cf_wI (decide_eq_true (by omega))) (cf_tr (cf_wI (decide_eq_true (by omega))) (cf_wI (decide_eq_true (by omega))))
  have f8 : (cm_wI (cm_wI (cm_wI S 83 20 (Int32.ofNat (P.length + 1))) 97 nx (Int32.ofNat P.length)) 91 v (Int32.ofNat P.length)).1 83 9 = S.1 83 9 := by
    rw [cp_wI1, if_neg (by omega), cp_wI1, if_neg (by omega), cp_wI1, if_neg (by omega)]
  generalize cm_wI (cm_wI (cm_wI S 83 20 (Int32.ofNat (P.length + 1))) 97 nx (Int32.ofNat P.length)) 91 v (Int32.ofNat P.length) = S8 at s8 g8 c8 f8 ⊢
  refine ih wt _ S8 lo (P ++ [y]) R _ (by omega) (by rw [hB]; simp) hcap s8 (fun S9 q t9 s9 f9 c9 => cp_r1 ⟨cp_in hv (by decide), ?_⟩)
  rintro _ rfl
  rw [List.length_append, List.length_singleton] at s9
  have cw : cf_W (fun b _ => decide (b = 91)) S9 (cm_wI S9 91 v (S.1 91 v)) := cf_wI (decide_eq_true rfl)
  have g9 := cl_sg_fr wa wb wc c9 (fun r q1 q2 => decide_eq_false (by omega)) (fun r x q1 q2 q3 => decide_eq_false (by have := hf x q3; omega)) g8
  try dsimp only [cm_sh]
  refine k _ q (cl_t_cf cw _ (ct_map_wf t wt) _ _ (fun r x q1 q2 _ => decide_eq_false (by omega)) t9) (cl_rs_bk hv hs s9) (cl_sg_wo wa wb wc (by omega) g9) ?_ (cf_tr c8 (cf_tr (cW_rd_mono (by omega) (by omega) c9) (cf_wI (decide_eq_true (by omega)))))
  rw [cp_wI1, if_neg (by omega), ← f8]
  exact f9
theorem cp_198 {σ : Int32 → Int32} {y e1 : Int32} {e2 : Int64} {e : ct_E} {a b : ct_T} {D nx i v : Nat} {S : cm_S} {P R : List Int32} {K : cm_K} (hnd : B.Nodup) (he : N[i]? = some e) (hi : i < 120) (hnm : ct_nm e.1 e.2.2.1 e.2.2.2.1 = Int32.ofNat v) (hv : v < 26) (iha : cl_rd L xs N B e.2.2.2.2.1 (ct_us σ (Int32.ofNat v) y) a) (ihb : cl_rd L xs N B e.2.2.2.2.2.1 (ct_us σ (Int32.ofNat v) y) b) (wa : ct_wf a) (wb : ct_wf b) (hD : 2 * (ct_sz a + ct_sz b) + 4 ≤ D) (hB : B = P ++ (y :: (ct_bo a ++ (ct_bo b ++ R)))) (hcap : nx + 1 + ct_sz a + ct_sz b ≤ 8192) (hs : cl_rs N B S σ (nx + 1) P.length) (hg : cl_sg S nx (e1, e2, -1, -1) .leaf [] .leaf [] .leaf [])
    (k : ∀ S3, cl_rs N B S3 σ (nx + 1 + ct_sz a + ct_sz b) (P.length + 1 + (ct_bo a).length + (ct_bo b).length) → cl_sg S3 nx (e1, e2, Int32.ofNat P.length, -1) (ct_map (ct_fr 0 B) a) (List.range' (nx + 1) (ct_sz a)) (ct_map (ct_fr 0 B) b) (List.range' (nx + 1 + ct_sz a) (ct_sz b)) .leaf [] → cl_fg (ct_fx a ∧ ct_fx b) (S.1 83 9) (S3.1 83 9) → cf_W (cW_rd nx (1 + ct_sz a + ct_sz b)) S S3 → K (.inl none) S3 0) :
    cm_At (am_XX L xs) D 198 0 [some (.ref 83), some (.int (Int32.ofNat i)), some (.int (Int32.ofNat nx)), none] [] S K := by
  obtain ⟨D, rfl⟩ : ∃ d, D = d + 2 := ⟨D - 2, by omega⟩
  have hn : nx < 8192 := by omega
  have w0 : ct_wf .leaf := trivial
  refine cx_198_0 _ _ ?_
  rw [cp_cl (show i < 2147483648 by omega), cp_cl (show nx < 2147483648 by omega)]
  refine ⟨cp_in hi (by decide), ?_⟩
  rw [(cl_rs_row hs he).2.2.1, hnm]
  rintro _ rfl
  refine ⟨cp_in hv (by decide), ?_⟩
  rw [cp_cl (show v < 2147483648 by omega)]
  rintro _ rfl
  refine cp_195n hs.2.2.1 (cp_r1 ⟨cp_in hn (by decide), ?_⟩)
  rintro _ rfl
  refine ⟨cp_in hi (by decide), ?_⟩
  have s6 : cl_rs N B (cm_wI (cm_wI S 83 20 (Int32.ofNat (P.length + 1))) 97 nx (Int32.ofNat P.length)) σ (nx + 1) (P.length + 1) := cl_rs_w (by omega) (by omega) (cl_rs_20 hs)
  rw [(cl_rs_row s6 he).2.2.1, hnm]
  rintro _ rfl
  refine ⟨cp_in hn (by decide), ?_⟩
  rintro _ rfl
  refine ⟨cp_in hv (by decide), ?_⟩
  rw [cp_cl (show v < 2147483648 by omega), show (cm_wI (cm_wI S 83 20 (Int32.ofNat (P.length + 1))) 97 nx (Int32.ofNat P.length)).1 97 nx = Int32.ofNat P.length from by rw [cp_wI1, if_pos ⟨rfl, rfl⟩]]
  rintro _ rfl
  have s8 : cl_rs N B (cm_wI (cm_wI (cm_wI S 83 20 (Int32.ofNat (P.length + 1))) 97 nx (Int32.ofNat P.length)) 91 v (Int32.ofNat P.length)) (ct_us σ (Int32.ofNat v) y) (nx + 1) (P ++ [y]).length := by
    rw [List.length_append, List.length_singleton]
    exact cl_rs_us hnd hB hv s6
  have g8 : cl_sg (cm_wI (cm_wI (cm_wI S 83 20 (Int32.ofNat (P.length + 1))) 97 nx (Int32.ofNat P.length)) 91 v (Int32.ofNat P.length)) nx (e1, e2, Int32.ofNat P.length, -1) .leaf [] .leaf [] .leaf [] := cl_sg_wo w0 w0 w0 (by omega) (cl_sg_97 w0 w0 w0 (fun x hx => by simp at hx) (cl_sg_wo w0 w0 w0 (by omega) hg))
  have c8 : cf_W (cW_rd nx (1 + ct_sz a + ct_sz b)) S (cm_wI (cm_wI (cm_wI S 83 20 (Int32.ofNat (P.length + 1))) 97 nx (Int32.ofNat P.length)) 91 v (Int32.ofNat P.length)) := cf_tr (cf_wI (decide_eq_true (by omega))) (cf_tr (cf_wI (decide_eq_true (by omega))) (cf_wI (decide_eq_true (by omega))))
  have f8 : (cm_wI (cm_wI (cm_wI S 83 20 (Int32.ofNat (P.length + 1))) 97 nx (Int32.ofNat P.length)) 91 v (Int32.ofNat P.length)).1 83 9 = S.1 83 9 := by
    rw [cp_wI1, if_neg (by omega), cp_wI1, if_neg (by omega), cp_wI1, if_neg (by omega)]
  generalize cm_wI (cm_wI (cm_wI S 83 20 (Int32.ofNat (P.length + 1))) 97 nx (Int32.ofNat P.length)) 91 v (Int32.ofNat P.length) = S8 at s8 g8 c8 f8 ⊢
  refine ⟨cp_in hi (by decide), ?_⟩
  rw [(cl_rs_row s8 he).2.2.2.1]
  rintro _ rfl
  refine cp_ra iha wa w0 w0 w0 (by omega) (P := P ++ [y]) (R := ct_bo b ++ R) (by rw [hB]; simp) (by omega) s8 g8 (by omega) (fun x hx => by simp at hx) hn (fun S9 s9 g9 f9 c9 => ⟨cp_in hi (by decide), ?_⟩)
  rw [(cl_rs_row s9 he).2.2.2.2.1]
  rintro _ rfl
  have s9b : cl_rs N B S9 (ct_us σ (Int32.ofNat v) y) (nx + 1 + ct_sz a) (P ++ (y :: ct_bo a)).length := by
    rw [List.length_append, List.length_singleton] at s9
    rw [List.length_append, List.length_cons, show P.length + ((ct_bo a).length + 1) = P.length + 1 + (ct_bo a).length by omega]
    exact s9
  refine cp_rb ihb wb (ct_map_wf a wa) w0 w0 (by omega) (P := P ++ (y :: ct_bo a)) (R := R) (by rw [hB]; simp) (by omega) s9b g9 (by omega) (fun x hx => by
    rcases hx with hx | hx | hx
    · have := List.mem_range'_1.mp hx; omega
    · cases hx
    · cases hx) hn (fun S10 s10 g10 f10 c10 => ⟨cp_in hi (by decide), ?_⟩)
  rw [(cl_rs_row s10 he).2.2.1, hnm]
  rintro _ rfl
  refine ⟨cp_in hv (by decide), ?_⟩
  rw [cp_cl (show v < 2147483648 by omega)]
  rintro _ rfl
  try dsimp only [cm_sh]
  rw [List.length_append, List.length_cons, show P.length + ((ct_bo a).length + 1) + (ct_bo b).length = P.length + 1 + (ct_bo a).length + (ct_bo b).length by omega] at s10
  refine k _ (cl_rs_bk hv hs s10) (cl_sg_wo (ct_map_wf a wa) (ct_map_wf b wb) w0 (by omega) g10) ?_ (cf_tr c8 (cf_tr (cW_rd_mono (by omega) (by omega) c9) (cf_tr (cW_rd_mono (by omega) (by omega) c10) (cf_wI (decide_eq_true (by omega))))))
  rw [cp_wI1, if_neg (by omega), ← f8]
  exact cl_fg_and f9 f10
end CP58
