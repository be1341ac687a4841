/-! ## 56 the class makes a node a definition -/
/-- the tree of a node, nothing bound from without -/
def ct_ev (N : List ct_E) (p : Int32) : ct_T := ct_ex N N.length p (fun _ => -1) 0
def ct_up (T : Nat → ct_T) (i : Nat) (t : ct_T) : Nat → ct_T := fun j => if j = i then t else T j
theorem ct_is_px {N : List ct_E} {p : Int32} (h : ct_is N p) : ct_px N.length p := by
  obtain ⟨i, h1, h2, h3⟩ := ct_is_of h
  exact Or.inr ⟨i, h1, h2⟩
theorem ct_ev_xp {N : List ct_E} {p : Int32} (hN : ct_vs N) (hp : ct_is N p) : ct_xp N p (fun _ => -1) 0 (ct_ev N p) := ct_xp_all hN N.length p _ 0 (ct_is_px hp) (Nat.le_refl _)
theorem ct_ev_w {N : List ct_E} {p : Int32} (hN : ct_vs N) (hp : ct_is N p) : 1 ≤ ct_w N p ∧ ct_w N p ≤ 80 := by
  obtain ⟨i, h1, rfl, h3⟩ := ct_is_of hp
  have he := List.getElem?_eq_getElem h1
  rw [ct_w_at h3 he]
  obtain ⟨v1, v2, v3, v4, v5, v6, v7, v8, v9, v10, v11⟩ := hN.2 i _ he
  omega
theorem ct_ev_sz {N : List ct_E} {p : Int32} (hN : ct_vs N) (hp : ct_is N p) : ct_sz (ct_ev N p) = ct_w N p ∧ ct_wf (ct_ev N p) ∧ ¬ ct_ev N p = .leaf ∧ (ct_bo (ct_ev N p)).Nodup := by
  obtain ⟨x1, x2, x3, x4, x5, x6, x7, x8⟩ := ct_ev_xp hN hp
  have hw := ct_ev_w hN hp
  refine ⟨x1, x2, fun h => ?_, (ct_bo_perm _ x2).nodup_iff.mpr (x5 (by omega))⟩
  rw [h] at x1
  have : ct_sz (.leaf : ct_T) = 0 := rfl
  omega
theorem ct_ev_co {N : List ct_E} {p : Int32} (hN : ct_vs N) (hp : ct_is N p) (hf : ct_fx (ct_ev N p)) : ct_co (ct_ev N p) := by
  obtain ⟨x1, x2, x3, x4, x5, x6, x7, x8⟩ := ct_ev_xp hN hp
  obtain ⟨_, _, hl, _⟩ := ct_ev_sz hN hp
  have hw := ct_ev_w hN hp
  exact ⟨x2, hl, x7 (by omega) hf, x6 (by omega) (fun _ => Or.inl rfl), x5 (by omega), x8 _ (fun _ h => absurd rfl h) hf, x3, by omega⟩
theorem ck_d_fr {W : Nat → Nat → Bool} {S S2 : cm_S} {a : Nat} {T : Nat → ct_T} (hc : cf_W W S S2) (hd : ∀ b j, a + 1 ≤ b → b ≤ a + 5 → W b j = false) (h : ck_d S a T) : ck_d S2 a T := fun i hi => by
  refine ⟨fun hl => ?_, fun hl => ck_t_cf hc (fun b j h1 h2 _ _ => hd b j h1 h2) ((h i hi).2 hl)⟩
  rw [(hc (a + 5) _ (hd _ _ (by omega) (by omega))).1, (hc (a + 1) _ (hd _ _ (by omega) (by omega))).1]
  exact (h i hi).1 hl
theorem ck_d_up {S S2 : cm_S} {a i : Nat} {T : Nat → ct_T} {t : ct_T} (hs : ∀ j, j < 8 → ct_sz (T j) ≤ 150) (hl : ¬ t = .leaf) (hz : ct_sz t ≤ 150) (ht : ck_t S2 a (150 * i) t) (hc : cf_W (cW_c a (150 * i) (150 * i + ct_sz t)) S S2) (h : ck_d S a T) : ck_d S2 a (ct_up T i t) := fun j hj => by
  unfold ct_up
  by_cases hji : j = i
  · rw [if_pos hji]
    subst hji
    exact ⟨fun h => absurd h hl, fun _ => ht⟩
  · rw [if_neg hji]
    have hf : ∀ b k, 150 * j ≤ k → k < 150 * j + 150 → cW_c a (150 * i) (150 * i + ct_sz t) b k = false := fun b k q1 q2 => decide_eq_false (by omega)
    have hsj := hs j hj
    refine ⟨fun hl => ?_, fun hl => ck_t_cf hc (fun b k _ _ q1 q2 => hf b k q1 (by omega)) ((h j hj).2 hl)⟩
    rw [(hc (a + 5) _ (hf _ _ (by omega) (by omega))).1, (hc (a + 1) _ (hf _ _ (by omega) (by omega))).1]
    exact (h j hj).1 hl
def cW_bi (b _ : Nat) : Bool := decide (9 ≤ b ∧ b ≤ 20)
def cW_df (b _ : Nat) : Bool := decide (9 ≤ b ∧ b ≤ 20 ∨ 22 ≤ b ∧ b ≤ 26 ∨ 28 ≤ b ∧ b ≤ 32 ∨ b = 132)
section CP56
variable {L : Nat} {xs : Nat → Int32} {d : Nat} {N : List ct_E} {S : cm_S} {K : cm_K} {p p1 p2 : Int32}
theorem cp_1 (hN : ct_vs N) (hn : ck_n S N) (hp : ct_is N p) (k0 : ct_fx (ct_ev N p) → ∀ S2, ck_t S2 10 0 (ct_ev N p) → cf_W cW_bi S S2 → K (.inl (some (.int 1))) S2 0) (k1 : ¬ ct_fx (ct_ev N p) → ∀ S2, cf_W cW_bi S S2 → K (.inl (some (.int 0))) S2 0) :
    cm_At (am_XX L xs) (d + 5) 1 0 [some (.ref 9), some (.int p), none, none, none] [] S K := by
  obtain ⟨z1, z2, z3, z4⟩ := ct_ev_sz hN hp
  have hw := ct_ev_w hN hp
  have hl := hN.1
  have hne : ¬ p = -1 := by
    obtain ⟨i, h1, rfl, h3⟩ := ct_is_of hp
    exact cp_m1 h3
  refine cx_1_0 _ ?_
  rintro _ rfl
  rintro _ rfl
  have c0 : cf_W cW_bi S (cm_wI (cm_wI S 9 4 0) 9 8 0) := cf_tr (cf_wI rfl) (cf_wI rfl)
  refine cp_4 (d := d + 2) (l := []) (by rw [cp_wI1, if_neg (by omega), cp_wI1, if_pos ⟨rfl, rfl⟩]; rfl) trivial (by decide) (fun S1 g1 g2 g3 => cp_r0 (cp_shz ?_))
  have c1 : cf_W cW_bi S S1 := cf_tr c0 (cf_mono g3 (fun b j h => decide_eq_true (by have h := of_decide_eq_true h; omega)))
  have h := ck_bd_all (L := L) (xs := xs) (d := d) hN N.length p (fun _ => -1) 0 (ct_is_px hp) (Nat.le_refl _)
  refine h hne S1 [] (-1) 0 0 K p none none (ck_n_cf c1 (fun b j q1 q2 => decide_eq_false (by omega)) hn) g1 g2 (by rw [(g3 9 8 rfl).1, cp_wI1, if_pos ⟨rfl, rfl⟩]; rfl) ⟨rfl, rfl⟩ (by omega) (by show 0 + _ ≤ _; omega) (by omega) (fun hfx S2 cnt2 o3 o4 u1 u2 u3 u4 u5 u6 => ?_) (fun hfx S2 u => k1 hfx S2 (cf_tr c1 (cf_mono u (fun b j h => decide_eq_true (by have h := of_decide_eq_true h; omega)))))
  have c2 : cf_W cW_bi S S2 := cf_tr c1 (cf_mono u6 (fun b j h => decide_eq_true (by have h := of_decide_eq_true h; omega)))
  have fin : ∀ q : Int32, q = Int32.ofNat (ct_sz (ct_ev N p)) → cm_At (am_XX L xs) (d + 4) 23 0 [some (.ref 10), some (.int q), none] [] S2 (fun r S1 k2 => cm_r0 (((1 : Int32) = 0 ∨ (1 : Int32) = 1) ∧ (cm_sh K k2) (.inl (some (.int (1 : Int32)))) S1 0) (fun e3 => K (.inr e3) S1 k2) r) := by
    rintro _ rfl
    refine cp_23 (d := d + 1) (by decide) z2 u5 (by show _ ≤ 80; omega) (fun S3 v1 v2 => cp_r0 ⟨Or.inr rfl, ?_⟩)
    refine k0 hfx S3 v1 (cf_tr c2 (cf_mono v2 (fun b j h => decide_eq_true (by have h := of_decide_eq_true h; omega))))
  refine cx_1_18 _ _ _ _ ⟨fun _ => ?_, fun _ => fin _ (by rw [z1, Nat.zero_add])⟩
  rintro _ rfl
  rw [u1]
  exact ⟨fun h => absurd h (by decide), fun _ => fin _ (by rw [z1, Nat.zero_add])⟩
theorem cq_define {T U : Nat → ct_T} (hN : ct_vs N) (hn : ck_n S N) (h1 : ck_d S 21 T) (h2 : ck_d S 27 U) (hs : ∀ j, j < 8 → ct_sz (T j) ≤ 150 ∧ ct_sz (U j) ≤ 150)
    (k0 : ∀ i S2, i < 8 → p1 = Int32.ofNat i → ct_is N p2 → ct_fx (ct_ev N p2) → ck_d S2 21 (ct_up T i (ct_can (ct_ev N p2))) → ck_d S2 27 (ct_up U i (ct_can (ct_ev N p2))) → S2.2 132 0 = (Int32.ofNat (ct_sz (ct_ev N p2))).toInt64 → cf_W cW_df S S2 → K (.inl (some (.int 0))) S2 0)
    (k1 : ¬ ct_is N p2 → K (.inl (some (.int 1))) S 1) (k2 : ct_is N p2 → ¬ (0 ≤ p1.toInt ∧ p1.toInt < 8) → K (.inl (some (.int 2))) S 1)
    (k3 : ct_is N p2 → 0 ≤ p1.toInt ∧ p1.toInt < 8 → ¬ ct_fx (ct_ev N p2) → ∀ S2, cf_W cW_bi S S2 → K (.inl (some (.int 3))) S2 1) :
    cm_At (am_XX L xs) (d + 7) 287 0 [some (.ref 0), some (.int p1), some (.int p2), some (.ref 132), none] [] S K := by
  refine cx_287_0 _ _ ?_
  refine cx_141_0 _ _ ?_
  refine cp_157 (d := d + 4) hn (fun hp => cp_r0 ?_) (fun hp => cp_x0 ?_)
  · refine cp_161k (d := d + 4) (b := 8) rfl (fun h8 => cp_r0 ?_) (fun h8 => cp_x0 ?_)
    · obtain ⟨z1, z2, z3, z4⟩ := ct_ev_sz hN hp
      have hw := ct_ev_w hN hp
      obtain ⟨i, rfl, hi, hi2⟩ := cp_of h8.1
      have hi8 : i < 8 := by omega
      refine cp_1 hN hn hp (fun hf S2 g1 g2 => cp_r1 ⟨fun h => absurd h (by decide), fun _ => ?_⟩) (fun hf S2 g => cp_r1 ⟨fun _ => ?_, fun h => absurd rfl h⟩)
      · have hco := ct_ev_co hN hp hf
        obtain ⟨y1, y2, y3, y4, y5, y6, y7, y8⟩ := hco
        have csz : ct_sz (ct_can (ct_ev N p2)) = ct_sz (ct_ev N p2) := ct_can_sz
        have clf : ¬ ct_can (ct_ev N p2) = .leaf := fun h => z3 ((ct_can_lf z2).mp h)
        refine cp_165 (d := d + 4) (cp_r1 ?_)
        rw [cp_rt]
        have d1 : ck_d S2 21 T := ck_d_fr g2 (fun b j q1 q2 => decide_eq_false (by omega)) h1
        have d2 : ck_d S2 27 U := ck_d_fr g2 (fun b j q1 q2 => decide_eq_false (by omega)) h2
        refine cp_28 (by decide) (by decide) (by decide) z2 z3 y3 z4 (by show _ ≤ 1200; omega) g1 (fun S3 v1 v2 => cp_r0 ?_)
        have d3 : ck_d S3 21 (ct_up T i (ct_can (ct_ev N p2))) := ck_d_up (fun j hj => (hs j hj).1) clf (by omega) v1 (by rw [csz]; exact v2) d1
        have d4 : ck_d S3 27 U := ck_d_fr v2 (fun b j q1 q2 => decide_eq_false (by omega)) d2
        have g3 : ck_t S3 10 0 (ct_ev N p2) := ck_t_cf v2 (fun b j q1 q2 _ _ => decide_eq_false (by omega)) g1
        refine cp_28 (by decide) (by decide) (by decide) z2 z3 y3 z4 (by show _ ≤ 1200; omega) g3 (fun S4 w1 w2 => cp_r0 ?_)
        have d5 : ck_d S4 21 (ct_up T i (ct_can (ct_ev N p2))) := ck_d_fr w2 (fun b j q1 q2 => decide_eq_false (by omega)) d3
        have d6 : ck_d S4 27 (ct_up U i (ct_can (ct_ev N p2))) := ck_d_up (fun j hj => (hs j hj).2) clf (by omega) w1 (by rw [csz]; exact w2) d4
        refine cp_12 (d := d + 4) (by decide) (cp_r1 ?_)
        rw [cp_sz (by decide) (ck_t_cf w2 (fun b j q1 q2 _ _ => decide_eq_false (by omega)) v1) (ct_can_wf z2) clf, csz]
        try dsimp only [cm_sh]
        refine cp_r1 ⟨cp_in (i := 0) (by decide) (by decide), ?_⟩
        rintro _ rfl
        refine k0 i _ hi8 rfl hp hf (ck_d_fr (W := fun b _ => decide (b = 132)) (cf_wJ rfl) (fun b j q1 q2 => decide_eq_false (by omega)) d5) (ck_d_fr (W := fun b _ => decide (b = 132)) (cf_wJ rfl) (fun b j q1 q2 => decide_eq_false (by omega)) d6) ?_ ?_
        · rw [cp_wJ2]; exact if_pos ⟨rfl, rfl⟩
        · exact cf_tr (cf_mono g2 (fun b j h => decide_eq_true (by have h := of_decide_eq_true h; omega))) (cf_tr (cf_mono v2 (fun b j h => decide_eq_true (by have h := of_decide_eq_true h; omega))) (cf_tr (cf_mono w2 (fun b j h => decide_eq_true (by have h := of_decide_eq_true h; omega))) (cf_wJ rfl)))
      · try dsimp only [cm_sh]
        refine cp_x1 ?_
        exact ⟨by decide, fun h => absurd h (by decide), fun h => absurd h (by decide), fun _ => k3 hp h8 hf S2 g⟩
    · try dsimp only [cm_sh]
      refine cp_x1 ?_
      exact ⟨by decide, fun h => absurd h (by decide), fun _ => k2 hp h8, fun h => absurd h (by decide)⟩
  · try dsimp only [cm_sh]
    refine cp_x1 ?_
    exact ⟨by decide, fun _ => k1 hp, fun h => absurd h (by decide), fun h => absurd h (by decide)⟩
end CP56
