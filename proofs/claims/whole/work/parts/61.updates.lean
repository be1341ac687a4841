/-! ## 61 definitions of the model, one of them new -/
theorem cl_t_q {S : cm_S} {q : Int32} {pl : Nat} : ∀ u, ct_wf u → 0 < ct_sz u → cl_t S u q (List.range' pl (ct_sz u)) → q = Int32.ofNat pl :=
  ct_ind (P := fun u => 0 < ct_sz u → cl_t S u q (List.range' pl (ct_sz u)) → q = Int32.ofNat pl) (fun h => by rw [ct_sz_lf] at h; omega) (fun e a b c _ _ _ _ _ h => by
    obtain ⟨i, fa, fb, fc, g1, _, _, _, _, _, g2⟩ := h
    rw [g1]
    rw [ct_sz_nd, show 1 + (ct_sz a + (ct_sz b + ct_sz c)) = (ct_sz a + (ct_sz b + ct_sz c)) + 1 by omega, List.range'_succ] at g2
    injection g2 with g2 _
    rw [g2])
theorem cl_cs_f {W : Nat → Nat → Bool} {S S2 : cm_S} {c : Nat} (hc : cf_W W S S2) (h1 : W 83 23 = false) (h2 : ∀ j, W 101 j = false) (h : cl_cs S c) : cl_cs S2 c :=
  ⟨(hc _ _ h1).1.trans h.1, fun j hj => by rw [(hc _ _ (h2 j)).1]; exact h.2 j hj⟩
theorem cl_n_f {N : List ct_E} {W : Nat → Nat → Bool} {S S2 : cm_S} (hc : cf_W W S S2) (h0 : W 83 0 = false) (h1 : ∀ r j, 84 ≤ r → r ≤ 90 → W r j = false) (h : cl_n S N) : cl_n S2 N := by
  obtain ⟨n1, n2, n3⟩ := h
  refine ⟨n1, (hc _ _ h0).1.trans n2, fun i e he => ?_⟩
  obtain ⟨e1, e2, e3, e4, e5, e6, e7⟩ := n3 i e he
  exact ⟨(hc _ _ (h1 84 i (by omega) (by omega))).1.trans e1, (hc _ _ (h1 85 i (by omega) (by omega))).2.trans e2, (hc _ _ (h1 86 i (by omega) (by omega))).1.trans e3, (hc _ _ (h1 87 i (by omega) (by omega))).1.trans e4, (hc _ _ (h1 88 i (by omega) (by omega))).1.trans e5, (hc _ _ (h1 89 i (by omega) (by omega))).1.trans e6, (hc _ _ (h1 90 i (by omega) (by omega))).1.trans e7⟩
theorem cl_d_fr {W : Nat → Nat → Bool} {S S2 : cm_S} {sl pl : Nat} {T : Nat → ct_T} (hT : ct_ds T) (hc : cf_W W S S2) (h1 : ∀ j, j < 8 → W 103 (sl + j) = false) (h2 : ∀ b x, 92 ≤ b → b ≤ 98 → pl ≤ x → x < pl + 1200 → W b x = false) (h : cl_d S sl pl T) : cl_d S2 sl pl T := fun i hi hne => by
  obtain ⟨g1, g2⟩ := h i hi hne
  obtain ⟨hco, _⟩ := hT i hi hne
  have h150 := hco.2.2.2.2.2.2.2
  refine ⟨(hc _ _ (h1 i hi)).1.trans g1, cl_t_cf hc _ (ct_pre_co hco).1.1 _ _ (fun b x q1 q2 hx => ?_) g2⟩
  have := ct_range h150 x hx
  exact h2 b x q1 q2 (by omega) (by omega)
theorem cl_d_up {W : Nat → Nat → Bool} {S S2 : cm_S} {sl pl i : Nat} {T : Nat → ct_T} {t : ct_T} (hT : ct_ds T) (hi : i < 8) (hc : cf_W W S S2) (h1 : ∀ j, j < 8 → ¬ j = i → W 103 (sl + j) = false) (h2 : ∀ b x, 92 ≤ b → b ≤ 98 → pl ≤ x → x < pl + 1200 → ¬ (pl + 150 * i ≤ x ∧ x < pl + 150 * i + 150) → W b x = false) (h3 : S2.1 103 (sl + i) = Int32.ofNat (pl + 150 * i)) (h4 : cl_t S2 (ct_pre t) (Int32.ofNat (pl + 150 * i)) (List.range' (pl + 150 * i) (ct_sz t))) (h : cl_d S sl pl T) : cl_d S2 sl pl (ct_up T i t) := fun j hj hne => by
  unfold ct_up at hne ⊢
  by_cases hji : j = i
  · rw [if_pos hji]
    subst hji
    exact ⟨h3, h4⟩
  · rw [if_neg hji] at hne ⊢
    obtain ⟨g1, g2⟩ := h j hj hne
    obtain ⟨hco, _⟩ := hT j hj hne
    have h150 := hco.2.2.2.2.2.2.2
    refine ⟨(hc _ _ (h1 j hj hji)).1.trans g1, cl_t_cf hc _ (ct_pre_co hco).1.1 _ _ (fun b x q1 q2 hx => ?_) g2⟩
    have := ct_range h150 x hx
    exact h2 b x q1 q2 (by omega) (by omega) (by omega)
theorem ct_ds_up {T : Nat → ct_T} {i : Nat} {t : ct_T} (hT : ct_ds T) (h1 : ct_co t) (h2 : ct_can t = t) : ct_ds (ct_up T i t) := fun j hj hne => by
  unfold ct_up at hne ⊢
  by_cases hji : j = i
  · rw [if_pos hji]; exact ⟨h1, h2⟩
  · rw [if_neg hji] at hne ⊢; exact hT j hj hne
section CP61
variable {L : Nat} {xs : Nat → Int32}
theorem cp_203D {S : cm_S} {K : cm_K} {t : ct_T} {p : Int32} {fp : List Nat} {pl c D : Nat} (hD : ct_sz t + 4 ≤ D) (hg : ct_gd t) (hn : (ct_bl (ct_fl t)).length ≤ 32768) (hcl : cl_t S t p fp) (hcap : pl + ct_sz t ≤ 8192)
    (hdis : ∀ x, pl ≤ x → x < pl + ct_sz t → ¬ x ∈ fp) (hcs : cl_cs S c) (hc : c < 2147483647)
    (k : ∀ S2 q, cl_t S2 (ct_pre t) q (List.range' pl (ct_sz t)) → cl_al S2 [] (pl + ct_sz t) → S2.1 83 20 = Int32.ofNat (ct_bl (ct_fl t)).length → cl_cs S2 (c + 1) → cf_W (cW_cy (List.range' pl (ct_sz t))) S S2 → K (.inl (some (.int q))) S2 0) :
    cm_At (am_XX L xs) D 203 0 [some (.ref 83), some (.int p), some (.int (Int32.ofNat pl))] [] S K := by
  obtain ⟨d, rfl⟩ : ∃ d, D = d + ct_sz t + 4 := ⟨D - ct_sz t - 4, by omega⟩
  exact cp_203 hg hn hcl hcap hdis hcs hc k
theorem cp_204D {S : cm_S} {K : cm_K} {t : ct_T} {p : Int32} {fp : List Nat} {D : Nat} (hD : ct_sz t + 1 ≤ D) (hw : ct_wf t) (hs : ct_sz t < 100000) (h : cl_t S t p fp) (k : K (.inl (some (.int (Int32.ofNat (ct_sz t))))) S 0) : cm_At (am_XX L xs) D 204 0 [some (.ref 83), some (.int p)] [] S K := by
  obtain ⟨d, rfl⟩ : ∃ d, D = d + ct_sz t + 1 := ⟨D - ct_sz t - 1, by omega⟩
  exact cp_204 t hw d p fp K hs h k
theorem cp_210l {q1 q2 : Int32} {K : cm_K} {D : Nat} : ∀ (m n : Nat) (S : cm_S), n + m = 26 → (∀ v, v < n → S.1 91 v = -1) → (∀ S2, (∀ v, v < 26 → S2.1 91 v = -1) → cf_W (fun b _ => decide (b = 91)) S S2 → cm_At (am_XX L xs) (D + 1) 210 35 [some (.ref 83), some (.int q1), some (.int q2), some (.int (Int32.ofNat 26))] [] S2 K) → cm_At (am_XX L xs) (D + 1) 210 35 [some (.ref 83), some (.int q1), some (.int q2), some (.int (Int32.ofNat n))] [] S K
  | 0, n, S, hn, h, k => by
    have hn2 : n = 26 := by omega
    subst hn2
    exact k S h cf_rfl
  | m + 1, n, S, hn, h, k => by
    refine cx_210_35 _ _ _ ⟨fun _ => ⟨cp_in (by omega) (by decide), ?_⟩, fun h => absurd (by rw [show (26 : Int32) = Int32.ofNat 26 from rfl, cp_lt (by omega) (by omega)]; omega) h⟩
    rw [cp_cl (by omega), show Int32.ofNat n + 1 = Int32.ofNat (n + 1) from cp_ad (b := 1)]
    rintro _ rfl
    refine cp_210l m (n + 1) _ (by omega) (fun v hv => ?_) (fun S2 g1 g2 => k S2 g1 (cf_tr (cf_wI (decide_eq_true rfl)) g2))
    rw [cp_wI1]
    by_cases hvn : v = n
    · rw [if_pos ⟨rfl, hvn⟩]
    · rw [if_neg (fun hc => hvn hc.2)]; exact h v (by omega)
end CP61
