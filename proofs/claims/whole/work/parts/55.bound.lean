/-! ## 55 the class binds the names of a node: all of it -/
def ck_bd (L : Nat) (xs : Nat → Int32) (N : List ct_E) (d : Nat) (i : Int32) (σ : Int32 → Int32) (p : Nat) (t : ct_T) : Prop := ¬ i = -1 → ∀ (S : cm_S) (rest : List (Int32 × Int32)) (s : Int32) (cnt n : Nat) (K : cm_K) (q1 : Int32) (o3 o4 : Option Value), ck_n S N → S.1 9 4 = Int32.ofNat (rest.length + 1) → ck_sk S ((i, s) :: rest) → S.1 9 8 = Int32.ofNat cnt → ck_ch S cnt n s σ → p + ct_w N i ≤ 80 → rest.length + ct_w N i ≤ 80 → cnt + 2 * ct_w N i ≤ 160 →
  (ct_fx t → ∀ S2 cnt2 o3 o4, S2.1 9 4 = Int32.ofNat rest.length → S2.1 9 8 = Int32.ofNat cnt2 → cnt ≤ cnt2 → cnt2 ≤ cnt + 2 * ct_w N i → ck_f S2 10 p (ct_fl t) → cf_W (cW_bp p rest.length cnt) S S2 → cm_At (am_XX L xs) (d + 5) 1 18 [some (.ref 9), some (.int q1), some (.int (Int32.ofNat (p + ct_w N i))), o3, o4] [] S2 K) →
  (¬ ct_fx t → ∀ S2, cf_W (cW_bp p rest.length cnt) S S2 → K (.inl (some (.int 0))) S2 0) →
  cm_At (am_XX L xs) (d + 5) 1 18 [some (.ref 9), some (.int q1), some (.int (Int32.ofNat p)), o3, o4] [] S K
/-- parts that wait: node, what names stand for, tree, scope -/
abbrev ck_C : Type := Int32 × (Int32 → Int32) × ct_T × Int32
def ck_bds (L : Nat) (xs : Nat → Int32) (N : List ct_E) (d : Nat) : Nat → List ck_C → Prop
  | _, [] => True
  | p, c :: cs => ck_bd L xs N d c.1 c.2.1 p c.2.2.1 ∧ ¬ c.1 = -1 ∧ 1 ≤ ct_w N c.1 ∧ ct_sz c.2.2.1 = ct_w N c.1 ∧ ck_bds L xs N d (p + ct_w N c.1) cs
def ck_cw (N : List ct_E) : List ck_C → Nat
  | [] => 0
  | c :: cs => ct_w N c.1 + ck_cw N cs
def ck_cf (cs : List ck_C) : List ct_D := cs.flatMap (fun c => ct_fl c.2.2.1)
theorem cW_bp_mono {p r cnt p2 r2 cnt2 : Nat} (h1 : p ≤ p2) (h2 : r ≤ r2) (h3 : cnt ≤ cnt2) {S S2 : cm_S} (h : cf_W (cW_bp p2 r2 cnt2) S S2) : cf_W (cW_bp p r cnt) S S2 := cf_mono h (fun b j hb => decide_eq_true (by have hb := of_decide_eq_true hb; omega))
section CP55
variable {L : Nat} {xs : Nat → Int32} {d : Nat} {N : List ct_E}
theorem ck_run : ∀ (cs : List ck_C) (p : Nat) (S : cm_S) (rest : List (Int32 × Int32)) (cnt : Nat) (K : cm_K) (q1 : Int32) (o3 o4 : Option Value), ck_bds L xs N d p cs → ck_n S N → S.1 9 4 = Int32.ofNat (cs.length + rest.length) → ck_sk S (cs.map (fun c => (c.1, c.2.2.2)) ++ rest) → S.1 9 8 = Int32.ofNat cnt → (∀ c, c ∈ cs → ∃ n, ck_ch S cnt n c.2.2.2 c.2.1) → p + ck_cw N cs ≤ 80 → rest.length + ck_cw N cs ≤ 80 → cnt + 2 * ck_cw N cs ≤ 160 →
    ((∀ c, c ∈ cs → ct_fx c.2.2.1) → ∀ S2 cnt2 o3 o4, S2.1 9 4 = Int32.ofNat rest.length → S2.1 9 8 = Int32.ofNat cnt2 → cnt ≤ cnt2 → cnt2 ≤ cnt + 2 * ck_cw N cs → ck_f S2 10 p (ck_cf cs) → cf_W (cW_bp p rest.length cnt) S S2 → cm_At (am_XX L xs) (d + 5) 1 18 [some (.ref 9), some (.int q1), some (.int (Int32.ofNat (p + ck_cw N cs))), o3, o4] [] S2 K) →
    ((∃ c, c ∈ cs ∧ ¬ ct_fx c.2.2.1) → ∀ S2, cf_W (cW_bp p rest.length cnt) S S2 → K (.inl (some (.int 0))) S2 0) →
    cm_At (am_XX L xs) (d + 5) 1 18 [some (.ref 9), some (.int q1), some (.int (Int32.ofNat p)), o3, o4] [] S K
  | [], p, S, rest, cnt, K, q1, o3, o4, hb, hn, h4, hs, h8, hch, b1, b2, b3, k0, k1 => by
    rw [List.length_nil, Nat.zero_add] at h4
    exact k0 (fun c hc => by cases hc) S cnt o3 o4 h4 h8 (Nat.le_refl _) (by omega) ck_f_nil cf_rfl
  | c :: cs, p, S, rest, cnt, K, q1, o3, o4, hb, hn, h4, hs, h8, hch, b1, b2, b3, k0, k1 => by
    obtain ⟨w1, w2, w3, w4, w5⟩ := hb
    have lw : ∀ (cs : List ck_C) (q : Nat), ck_bds L xs N d q cs → cs.length ≤ ck_cw N cs := by
      intro cs
      induction cs with
      | nil => intro _ _; exact Nat.le_refl _
      | cons c cs ih =>
        intro q h
        have := ih _ h.2.2.2.2
        have h3 := h.2.2.1
        show cs.length + 1 ≤ ct_w N c.1 + ck_cw N cs
        omega
    have hlw := lw cs _ w5
    have e0 : ck_cw N (c :: cs) = ct_w N c.1 + ck_cw N cs := rfl
    rw [e0] at b1 b2 b3 k0
    obtain ⟨n, hn1⟩ := hch c List.mem_cons_self
    have hlen : (cs.map (fun c => (c.1, c.2.2.2)) ++ rest).length = cs.length + rest.length := by rw [List.length_append, List.length_map]
    refine w1 w2 S (cs.map (fun c => (c.1, c.2.2.2)) ++ rest) c.2.2.2 cnt n K q1 o3 o4 hn (by rw [h4, hlen, List.length_cons]; congr 1; omega) hs h8 hn1 (by omega) (by rw [hlen]; omega) (by omega) (fun hfx S2 cnt2 o3 o4 g1 g2 g3 g4 g5 g6 => ?_) (fun hfx S2 g => k1 ⟨c, List.mem_cons_self, hfx⟩ S2 (cW_bp_mono (Nat.le_refl _) (by rw [hlen]; omega) (Nat.le_refl _) g))
    rw [hlen] at g1 g6
    have g6s : cf_W (cW_bp p rest.length cnt) S S2 := cW_bp_mono (Nat.le_refl _) (by omega) (Nat.le_refl _) g6
    refine ck_run cs (p + ct_w N c.1) S2 rest cnt2 K q1 o3 o4 w5 (ck_n_cf g6 (fun b j q1 q2 => decide_eq_false (by omega)) hn) g1 (ck_sk_cf g6 (fun d j q1 q2 q3 => decide_eq_false (by rw [hlen] at q3; omega)) hs.2.2) g2 (fun c2 hc2 => ?_) (by omega) (by omega) (by omega) (fun hfx2 S3 cnt3 o3 o4 r1 r2 r3 r4 r5 r6 => ?_) (fun hex S3 r => k1 (by obtain ⟨c2, h1, h2⟩ := hex; exact ⟨c2, List.mem_cons_of_mem _ h1, h2⟩) S3 (cf_tr g6s (cW_bp_mono (by omega) (Nat.le_refl _) g3 r)))
    · obtain ⟨n2, h2⟩ := hch c2 (List.mem_cons_of_mem _ hc2)
      exact ⟨n2, ck_ch_mono g3 (ck_ch_cf g6 (fun d j q1 q2 q3 => decide_eq_false (by omega)) h2)⟩
    · have h := k0 (fun c2 hc2 => by rcases List.mem_cons.mp hc2 with h | h; exact h ▸ hfx; exact hfx2 c2 h) S3 cnt3 o3 o4 r1 r2 (by omega) (by omega) ?_ (cf_tr g6s (cW_bp_mono (by omega) (Nat.le_refl _) g3 r6))
      · rw [Nat.add_assoc]; exact h
      · show ck_f S3 10 p (ct_fl c.2.2.1 ++ ck_cf cs)
        rw [ck_f_app, ct_fl_len, w4]
        exact ⟨ck_f_cf r6 (fun b j q1 q2 q3 q4 => decide_eq_false (by rw [ct_fl_len, w4] at q4; omega)) g5, r5⟩
/-- one turn takes a node from what waits -/
theorem ck_turn {S : cm_S} {K : cm_K} {rest : List (Int32 × Int32)} {i s q1 : Int32} {p : Nat} {o3 o4 : Option Value} (h4 : S.1 9 4 = Int32.ofNat (rest.length + 1)) (hs : ck_sk S ((i, s) :: rest)) (hp : p < 80) (hr : rest.length < 240)
    (k : cm_At (am_XX L xs) (d + 4) 2 0 [some (.ref 9), some (.int (Int32.ofNat p)), some (.int i), some (.int s), none, none, none, none, none, none, none] [] (cm_wI S 9 4 (Int32.ofNat rest.length)) (fun r S20 k21 => cm_r1 (fun x23 => (x23 = 0 → K (.inl (some (.int 0))) S20 k21) ∧ (¬ x23 = 0 → cm_At (am_XX L xs) (d + 5) 1 18 [some (.ref 9), some (.int q1), some (.int (Int32.ofNat (p + 1))), some (.int i), some (.int s)] [] S20 (cm_sh K k21))) (fun _ => False) r)) :
    cm_At (am_XX L xs) (d + 5) 1 18 [some (.ref 9), some (.int q1), some (.int (Int32.ofNat p)), o3, o4] [] S K := by
  have e16 : (cm_wI S 9 4 (Int32.ofNat rest.length)).1 16 rest.length = i := by rw [cp_wI1, if_neg (by omega)]; exact hs.1
  have e17 : (cm_wI S 9 4 (Int32.ofNat rest.length)).1 17 rest.length = s := by rw [cp_wI1, if_neg (by omega)]; exact hs.2.1
  refine cx_1_18 _ _ _ _ ⟨fun _ => ?_, fun h => absurd (by rw [show (80 : Int32) = Int32.ofNat 80 from rfl, cp_lt (by omega) (by omega)]; omega) h⟩
  rintro _ rfl
  rw [h4]
  refine ⟨fun _ => ?_, fun h => absurd (by rw [show (0 : Int32) = Int32.ofNat 0 from rfl, cp_lt (by omega) (by omega)]; omega) h⟩
  rintro _ rfl
  rintro _ rfl
  rw [cp_s1]
  rintro _ rfl
  rw [cp_wI1, if_pos ⟨rfl, rfl⟩]
  refine cp_166 (by decide) (cp_r1 ?_)
  rw [cp_g_at (show rest.length < cm_rl 16 from hr) (by decide +kernel), e16]
  rintro _ rfl
  rw [cp_wI1, if_pos ⟨rfl, rfl⟩]
  refine cp_166 (by decide) (cp_r1 ?_)
  rw [cp_g_at (show rest.length < cm_rl 17 from hr) (by decide +kernel), e17]
  refine k.mono (fun r S20 k21 h => ?_)
  unfold cm_r1 at h
  split at h
  · next x23 =>
    refine cp_r1 ⟨fun h0 => ⟨Or.inl rfl, ?_⟩, fun h0 => ?_⟩
    · show K _ S20 (0 + (0 + (k21 + 0)))
      rw [Nat.zero_add, Nat.zero_add, Nat.add_zero]
      exact h.1 h0
    · rw [show Int32.ofNat p + 1 = Int32.ofNat (p + 1) from cp_ad (b := 1)]
      refine (h.2 h0).mono (fun r S2 n hk => ?_)
      show K r S2 (0 + (0 + (k21 + n)))
      rw [Nat.zero_add, Nat.zero_add]
      exact hk
  · cases h
  · cases h
theorem ct_w_pos (hN : ct_vs N) {i : Nat} {b : Prop} {p : Int32} (h : ct_pp i b p) (hi : i ≤ N.length) (hp : ¬ p = -1) : 1 ≤ ct_w N p := by
  have hb : b := Classical.byContradiction (fun hc => hp (h.2 hc))
  obtain ⟨j, h1, rfl⟩ := h.1 hb
  have hl := hN.1
  have he := List.getElem?_eq_getElem (show j < N.length by omega)
  rw [ct_w_at (by omega) he]
  have := (hN.2 j _ he).2.2.2.2.2.2.2.2.2.1
  omega
theorem ck_bd_all (hN : ct_vs N) : ∀ (g : Nat) (i : Int32) σ p, ct_px g i → g ≤ N.length → ck_bd L xs N d i σ p (ct_ex N g i σ p) := by
  intro g i σ p hi hg
  have hl := hN.1
  refine ((ct_ex_ind hN (P := fun i σ p t => ck_bd L xs N d i σ p t ∧ ct_sz t = ct_w N i) (fun σ p => ⟨fun h => absurd rfl h, ct_w_m1.symm⟩) (fun i e σ p he hv hk => ?_) (fun i e σ p a b c he hv hk ha hb hc la lb lc => ?_) g i σ p hi hg).1).1
  · have hil : i < N.length := (List.getElem?_eq_some_iff.mp he).1
    obtain ⟨v1, v2, v3, v4, v5, v6, v7, v8, v9, v10, v11⟩ := hv
    have har : ct_ar e.1 = 0 := by rw [hk]; decide +kernel
    have hw1 : ct_w N (Int32.ofNat i) = 1 := by rw [ct_w_at (by omega) he, v10, v2.2 (by omega), v3.2 (by omega), v4.2 (by omega), ct_w_m1]
    refine ⟨fun _ S rest s cnt n K q1 o3 o4 hn h4 hs h8 hch b1 b2 b3 k0 k1 => ?_, hw1.symm⟩
    rw [hw1] at b1 b2 b3 k0
    have hfl : ct_fl (ct_nd (e.1, e.2.1, σ e.2.2.1, -1) .leaf .leaf .leaf) = [(e.1, e.2.1, σ e.2.2.1, -1)] := rfl
    have hnum : e.2.1 = 0 := v6.2.2.2 (by
      show ¬ (e.1 = 1 ∨ e.1 = 3 ∨ e.1 = 9 ∨ e.1 = 14)
      rw [hk]; decide)
    have c0 : cf_W (cW_bp p rest.length cnt) S (cm_wI S 9 4 (Int32.ofNat rest.length)) := cf_wI (decide_eq_true (Or.inl rfl))
    have cn : ∀ {b j : Nat}, ¬ b = 9 → (decide (b = 9)) = false := fun h => decide_eq_false h
    have c00 : cf_W (fun b _ => decide (b = 9)) S (cm_wI S 9 4 (Int32.ofNat rest.length)) := cf_wI (decide_eq_true rfl)
    refine ck_turn h4 hs (by omega) (by omega) ?_
    refine cp_2v (ck_n_cf c00 (fun b j q1 q2 => decide_eq_false (by omega)) hn) he hk (ck_ch_cf c00 (fun d j q1 q2 q3 => decide_eq_false (by omega)) hch) (by omega) (by omega) hnum (cp_r1 ?_)
    have c1 : cf_W (cW_bp p rest.length cnt) S (cp_putD (cm_wI S 9 4 (Int32.ofNat rest.length)) 10 (Int32.ofNat p) (e.1, e.2.1, σ e.2.2.1, -1)) := cf_tr c0 (cp_putD_cf (fun b q1 q2 => decide_eq_true (by omega)) (by omega))
    by_cases hx : σ e.2.2.1 = -1
    · rw [if_pos hx]
      refine ⟨fun _ => k1 (fun hc => hc _ (by rw [hfl]; exact List.mem_cons_self) hk hx) _ c1, fun h => absurd rfl h⟩
    · rw [if_neg hx]
      refine ⟨fun h => absurd h (by decide), fun _ => cp_shz (k0 (fun e2 h2 _ => ?_) _ cnt _ _ ?_ ?_ (Nat.le_refl _) (by omega) ?_ c1)⟩
      · rw [hfl, List.mem_singleton] at h2
        subst h2
        exact hx
      · rw [((cp_putD_cf (W := fun b _ => decide (11 ≤ b ∧ b ≤ 15)) (fun b q1 q2 => decide_eq_true (by omega)) (by omega) : cf_W _ (cm_wI S 9 4 (Int32.ofNat rest.length)) _) 9 4 rfl).1, cp_wI1, if_pos ⟨rfl, rfl⟩]
      · rw [((cp_putD_cf (W := fun b _ => decide (11 ≤ b ∧ b ≤ 15)) (fun b q1 q2 => decide_eq_true (by omega)) (by omega) : cf_W _ (cm_wI S 9 4 (Int32.ofNat rest.length)) _) 9 8 rfl).1, cp_wI1, if_neg (by omega)]
        exact h8
      · rw [hfl, ck_f_cons]
        refine ⟨?_, ck_f_nil⟩
        rw [cp_putD_row (show p < cm_cap 10 by show p < 80; omega) (by omega), if_pos rfl]
  · have hil : i < N.length := (List.getElem?_eq_some_iff.mp he).1
    obtain ⟨v1, v2, v3, v4, v5, v6, v7, v8, v9, v10, v11⟩ := hv
    have hwt : ct_w N (Int32.ofNat i) = 1 + (ct_w N e.2.2.2.2.1 + (ct_w N e.2.2.2.2.2.1 + ct_w N e.2.2.2.2.2.2.1)) := by rw [ct_w_at (by omega) he, v10]; omega
    have m1 := ct_pp_m1 v2 (by omega)
    have m2 := ct_pp_m1 v3 (by omega)
    have m3 := ct_pp_m1 v4 (by omega)
    refine ⟨fun _ S rest s cnt n K q1 o3 o4 hn h4 hs h8 hch b1 b2 b3 k0 k1 => ?_, ?_⟩
    · rw [hwt] at b1 b2 b3 k0
      have c0 : cf_W (cW_bp p rest.length cnt) S (cm_wI S 9 4 (Int32.ofNat rest.length)) := cf_wI (decide_eq_true (Or.inl rfl))
      have c00 : cf_W (fun b _ => decide (b = 9)) S (cm_wI S 9 4 (Int32.ofNat rest.length)) := cf_wI (decide_eq_true rfl)
      obtain ⟨n1, n2, n3, n4, n5, n6, n7, n8⟩ := hn.2.2 i e he
      have wa := fun h => ct_w_pos hN v2 (by omega) h
      have wb := fun h => ct_w_pos hN v3 (by omega) h
      have wc := fun h => ct_w_pos hN v4 (by omega) h
      refine ck_turn h4 hs (by omega) (by omega) ?_
      refine cp_2n (l := rest) (ck_n_cf c00 (fun b j q1 q2 => decide_eq_false (by omega)) hn) he hk v1 (ck_ch_cf c00 (fun d j q1 q2 q3 => decide_eq_false (by omega)) hch) (by rw [cp_wI1, if_neg (by omega)]; exact h8) (by omega) (by omega) (ck_sk_cf c00 (fun d j q1 q2 q3 => decide_eq_false (by omega)) hs.2.2) (by rw [cp_wI1, if_pos ⟨rfl, rfl⟩]) (by omega) (fun S2 s2 nn2 cnt2 g1 g2 g3 g4 g5 g6 g7 g8 g9 => cp_r1 ?_)
      have c9 : cf_W (cW_bp p rest.length cnt) S S2 := cf_tr c0 (cf_mono g9 (fun b j h => by rw [Bool.and_eq_true] at h; exact h.1))
      have hn2 : ck_n S2 N := ck_n_cf c9 (fun b j q1 q2 => decide_eq_false (by omega)) hn
      have x8 : ∀ m, (cm_wI S 9 4 (Int32.ofNat rest.length)).1 8 m = S.1 8 m := fun m => by rw [cp_wI1, if_neg (by omega)]
      have t0 : ct_is1 e.1 (Int32.ofNat 0) = true ↔ ¬ (e.1 = 6 ∨ e.1 = 12) := by
        unfold ct_is1
        by_cases k6 : e.1 = 6
        · rw [if_pos k6]; exact ⟨fun h => absurd h (by decide), fun h => absurd (Or.inl k6) h⟩
        · rw [if_neg k6]
          by_cases k12 : e.1 = 12
          · rw [if_pos k12]; exact ⟨fun h => absurd h (by decide), fun h => absurd (Or.inr k12) h⟩
          · rw [if_neg k12]; exact ⟨fun _ h => h.elim k6 k12, fun _ => rfl⟩
      have t1 : ct_is1 e.1 (Int32.ofNat 1) = true ↔ ¬ e.1 = 12 := by
        unfold ct_is1
        by_cases k6 : e.1 = 6
        · rw [if_pos k6]; exact ⟨fun _ h => absurd (k6.symm.trans h) (by decide), fun _ => by decide⟩
        · rw [if_neg k6]
          by_cases k12 : e.1 = 12
          · rw [if_pos k12]; exact ⟨fun h => absurd h (by decide), fun h => absurd k12 h⟩
          · rw [if_neg k12]; exact ⟨fun _ => k12, fun _ => rfl⟩
      have t2 : ¬ e.1 = 6 → ct_is1 e.1 (Int32.ofNat 2) = true := by
        intro k6
        unfold ct_is1
        rw [if_neg k6]
        by_cases k12 : e.1 = 12
        · rw [if_pos k12]; decide
        · rw [if_neg k12]
      have ch0 : ∃ n, ck_ch S2 cnt2 n (if ct_is1 e.1 (Int32.ofNat 0) = true then s2 else s) (if e.1 = 6 ∨ e.1 = 12 then σ else ct_us (ct_us σ e.2.2.1 (Int32.ofNat (2 * p))) e.2.2.2.1 (Int32.ofNat (2 * p + 1))) := by
        by_cases h : e.1 = 6 ∨ e.1 = 12
        · rw [if_pos h, if_neg (fun x => t0.mp x h)]; exact ⟨n, ck_ch_mono g1 g5⟩
        · rw [if_neg h, if_pos (t0.mpr h)]; exact ⟨nn2, g4⟩
      have ch1 : ∃ n, ck_ch S2 cnt2 n (if ct_is1 e.1 (Int32.ofNat 1) = true then s2 else s) (if e.1 = 12 then σ else ct_us (ct_us σ e.2.2.1 (Int32.ofNat (2 * p))) e.2.2.2.1 (Int32.ofNat (2 * p + 1))) := by
        by_cases h : e.1 = 12
        · rw [if_pos h, if_neg (fun x => t1.mp x h)]; exact ⟨n, ck_ch_mono g1 g5⟩
        · rw [if_neg h, if_pos (t1.mpr h)]; exact ⟨nn2, g4⟩
      have ch2 : ¬ e.1 = 6 → ∃ n, ck_ch S2 cnt2 n (if ct_is1 e.1 (Int32.ofNat 2) = true then s2 else s) (ct_us (ct_us σ e.2.2.1 (Int32.ofNat (2 * p))) e.2.2.2.1 (Int32.ofNat (2 * p + 1))) := fun k6 => by
        rw [if_pos (t2 k6)]; exact ⟨nn2, g4⟩
      refine ⟨fun h => absurd h (by decide), fun _ => cp_shz ?_⟩
      have dk : ¬ (((e.1, e.2.1, (if e.2.2.1 = -1 then -1 else Int32.ofNat (2 * p)), (if e.2.2.2.1 = -1 then -1 else Int32.ofNat (2 * p + 1))) : ct_D)).1 = 2 := hk
      generalize ((e.1, e.2.1, (if e.2.2.1 = -1 then -1 else Int32.ofNat (2 * p)), (if e.2.2.2.1 = -1 then -1 else Int32.ofNat (2 * p + 1))) : ct_D) = dd at g8 k0 k1 dk
      -- all of it, by the parts that there are
      have fin : ∀ cs : List ck_C, ck_bds L xs N d (p + 1) cs → cs.map (fun c => (c.1, c.2.2.2)) = ct_pl (fun m => ((cm_wI S 9 4 (Int32.ofNat rest.length)).1 8 (3 * i + m), if ct_is1 e.1 (Int32.ofNat m) = true then s2 else s)) (ct_ar e.1) [] → (∀ c, c ∈ cs → ∃ n, ck_ch S2 cnt2 n c.2.2.2 c.2.1) → ck_cw N cs = ct_w N e.2.2.2.2.1 + (ct_w N e.2.2.2.2.2.1 + ct_w N e.2.2.2.2.2.2.1) → ck_cf cs = ct_fl a ++ (ct_fl b ++ ct_fl c) → (∀ c2, c2 ∈ cs → ct_fl c2.2.2.1 = ct_fl a ∨ ct_fl c2.2.2.1 = ct_fl b ∨ ct_fl c2.2.2.1 = ct_fl c) → cm_At (am_XX L xs) (d + 5) 1 18 [some (.ref 9), some (.int q1), some (.int (Int32.ofNat (p + 1))), some (.int (Int32.ofNat i)), some (.int s)] [] S2 K := by
        intro cs r1 r2 r3 r4 r5 r6
        have hpl : ∀ (g : Nat → Int32 × Int32) (n : Nat) (l : List (Int32 × Int32)), ct_pl g n l = ct_pl g n [] ++ l := by
          intro g n
          induction n with
          | zero => intro l; rfl
          | succ n ih =>
            intro l
            show ct_pl g n (g n :: l) = ct_pl g n [g n] ++ l
            rw [ih (g n :: l), ih [g n], List.append_assoc]
            rfl
        have hlen : cs.length = ct_ar e.1 := by
          have h := congrArg List.length r2
          rw [List.length_map, ct_pl_len, List.length_nil, Nat.add_zero] at h
          exact h
        rw [hpl, ← r2] at g7
        have hfx : ct_fx (ct_nd dd a b c) ↔ ∀ e2, e2 ∈ ck_cf cs → e2.1 = 2 → ¬ e2.2.2.1 = -1 := by
          rw [r5]
          constructor
          · intro h e2 h2 h3
            exact h e2 (by rw [ct_fl_nd]; exact List.mem_cons_of_mem _ h2) h3
          · intro h e2 h2 h3
            rw [ct_fl_nd] at h2
            rcases List.mem_cons.mp h2 with h2 | h2
            · rw [h2] at h3; exact absurd h3 dk
            · exact h e2 h2 h3
        refine ck_run cs (p + 1) S2 rest cnt2 K q1 _ _ r1 hn2 (by rw [g6, hlen]; congr 1; omega) g7 g3 r3 (by omega) (by omega) (by omega) (fun hall S3 cnt3 o3 o4 u1 u2 u3 u4 u5 u6 => ?_) (fun hex S3 u => k1 (fun hc => ?_) S3 (cf_tr c9 (cW_bp_mono (by omega) (Nat.le_refl _) g1 u)))
        · rw [r4, show p + 1 + (ct_w N e.2.2.2.2.1 + (ct_w N e.2.2.2.2.2.1 + ct_w N e.2.2.2.2.2.2.1)) = p + (1 + (ct_w N e.2.2.2.2.1 + (ct_w N e.2.2.2.2.2.1 + ct_w N e.2.2.2.2.2.2.1))) by omega]
          refine k0 (hfx.mpr (fun e2 h2 h3 => ?_)) S3 cnt3 o3 o4 u1 u2 (by omega) (by omega) ?_ (cf_tr c9 (cW_bp_mono (by omega) (Nat.le_refl _) g1 u6))
          · obtain ⟨c2, hc2, he2⟩ := List.mem_flatMap.mp h2
            exact hall c2 hc2 e2 he2 h3
          · rw [ct_fl_nd, ck_f_cons, ← r5]
            refine ⟨?_, u5⟩
            rw [← g8]
            have z : ∀ b, 11 ≤ b → b ≤ 15 → S3.1 b p = S2.1 b p ∧ S3.2 b p = S2.2 b p := fun b h1 h2 => u6 b p (decide_eq_false (by omega))
            unfold cp_row
            rw [(z 11 (by omega) (by omega)).1, (z 14 (by omega) (by omega)).2, (z 12 (by omega) (by omega)).1, (z 13 (by omega) (by omega)).1]
        · obtain ⟨c2, hc2, hne⟩ := hex
          exact hne (fun e2 h2 h3 => hfx.mp hc e2 (List.mem_flatMap.mpr ⟨c2, hc2, h2⟩) h3)
      have g0 : ((cm_wI S 9 4 (Int32.ofNat rest.length)).1 8 (3 * i + 0)) = e.2.2.2.2.1 := by rw [x8]; exact n5
      have g01 : ((cm_wI S 9 4 (Int32.ofNat rest.length)).1 8 (3 * i + 1)) = e.2.2.2.2.2.1 := by rw [x8]; exact n6
      have g02 : ((cm_wI S 9 4 (Int32.ofNat rest.length)).1 8 (3 * i + 2)) = e.2.2.2.2.2.2.1 := by rw [x8]; exact n7
      have h3 := (ct_ar_pt v1).2
      generalize har : ct_ar e.1 = m at fin h3 m1 m2 m3
      have key : m = 0 ∨ m = 1 ∨ m = 2 ∨ m = 3 := by omega
      rcases key with rfl | rfl | rfl | rfl
      · have f1 := m1.mpr (by omega)
        have f2 := m2.mpr (by omega)
        have f3 := m3.mpr (by omega)
        rw [la.mp f1, lb.mp f2, lc.mp f3] at fin
        exact fin [] trivial rfl (fun c hc => by cases hc) (by rw [f1, f2, f3, ct_w_m1]; rfl) rfl (fun c hc => by cases hc)
      · have f1 : ¬ e.2.2.2.2.1 = -1 := fun h => absurd (m1.mp h) (by omega)
        have f2 := m2.mpr (by omega)
        have f3 := m3.mpr (by omega)
        rw [lb.mp f2, lc.mp f3] at fin
        refine fin [(e.2.2.2.2.1, _, a, if ct_is1 e.1 (Int32.ofNat 0) = true then s2 else s)] ⟨ha.1, f1, wa f1, ha.2, trivial⟩ ?_ (fun c hc => ?_) (by rw [f2, f3, ct_w_m1]; rfl) (by show ct_fl a ++ [] = ct_fl a ++ ([] ++ []); simp) (fun c hc => ?_)
        · show ([(e.2.2.2.2.1, (if ct_is1 e.1 (Int32.ofNat 0) = true then s2 else s))] : List (Int32 × Int32)) = [((cm_wI S 9 4 (Int32.ofNat rest.length)).1 8 (3 * i + 0), (if ct_is1 e.1 (Int32.ofNat 0) = true then s2 else s))]; rw [g0]
        · rw [List.mem_singleton] at hc; subst hc; exact ch0
        · rw [List.mem_singleton] at hc; subst hc; exact Or.inl rfl
      · have f1 : ¬ e.2.2.2.2.1 = -1 := fun h => absurd (m1.mp h) (by omega)
        have f2 : ¬ e.2.2.2.2.2.1 = -1 := fun h => absurd (m2.mp h) (by omega)
        have f3 := m3.mpr (by omega)
        rw [lc.mp f3] at fin
        refine fin [(e.2.2.2.2.1, _, a, if ct_is1 e.1 (Int32.ofNat 0) = true then s2 else s), (e.2.2.2.2.2.1, _, b, if ct_is1 e.1 (Int32.ofNat 1) = true then s2 else s)] ⟨ha.1, f1, wa f1, ha.2, hb.1, f2, wb f2, hb.2, trivial⟩ ?_ (fun c hc => ?_) (by rw [f3, ct_w_m1]; rfl) (by show ct_fl a ++ (ct_fl b ++ []) = ct_fl a ++ (ct_fl b ++ []); rfl) (fun c hc => ?_)
        · show ([(e.2.2.2.2.1, (if ct_is1 e.1 (Int32.ofNat 0) = true then s2 else s)), (e.2.2.2.2.2.1, (if ct_is1 e.1 (Int32.ofNat 1) = true then s2 else s))] : List (Int32 × Int32)) = [((cm_wI S 9 4 (Int32.ofNat rest.length)).1 8 (3 * i + 0), (if ct_is1 e.1 (Int32.ofNat 0) = true then s2 else s)), ((cm_wI S 9 4 (Int32.ofNat rest.length)).1 8 (3 * i + 1), (if ct_is1 e.1 (Int32.ofNat 1) = true then s2 else s))]; rw [g0, g01]
        · rcases List.mem_cons.mp hc with hc | hc
          · subst hc; exact ch0
          · rw [List.mem_singleton] at hc; subst hc; exact ch1
        · rcases List.mem_cons.mp hc with hc | hc
          · subst hc; exact Or.inl rfl
          · rw [List.mem_singleton] at hc; subst hc; exact Or.inr (Or.inl rfl)
      · have f1 : ¬ e.2.2.2.2.1 = -1 := fun h => absurd (m1.mp h) (by omega)
        have f2 : ¬ e.2.2.2.2.2.1 = -1 := fun h => absurd (m2.mp h) (by omega)
        have f3 : ¬ e.2.2.2.2.2.2.1 = -1 := fun h => absurd (m3.mp h) (by omega)
        have k6 : ¬ e.1 = 6 := fun h => by rw [h] at har; exact absurd har (by decide +kernel)
        refine fin [(e.2.2.2.2.1, _, a, if ct_is1 e.1 (Int32.ofNat 0) = true then s2 else s), (e.2.2.2.2.2.1, _, b, if ct_is1 e.1 (Int32.ofNat 1) = true then s2 else s), (e.2.2.2.2.2.2.1, _, c, if ct_is1 e.1 (Int32.ofNat 2) = true then s2 else s)] ⟨ha.1, f1, wa f1, ha.2, hb.1, f2, wb f2, hb.2, hc.1, f3, wc f3, hc.2, trivial⟩ ?_ (fun c hc => ?_) rfl (by show ct_fl a ++ (ct_fl b ++ (ct_fl c ++ [])) = ct_fl a ++ (ct_fl b ++ ct_fl c); rw [List.append_nil]) (fun c2 hc => ?_)
        · show ([(e.2.2.2.2.1, (if ct_is1 e.1 (Int32.ofNat 0) = true then s2 else s)), (e.2.2.2.2.2.1, (if ct_is1 e.1 (Int32.ofNat 1) = true then s2 else s)), (e.2.2.2.2.2.2.1, (if ct_is1 e.1 (Int32.ofNat 2) = true then s2 else s))] : List (Int32 × Int32)) = [((cm_wI S 9 4 (Int32.ofNat rest.length)).1 8 (3 * i + 0), (if ct_is1 e.1 (Int32.ofNat 0) = true then s2 else s)), ((cm_wI S 9 4 (Int32.ofNat rest.length)).1 8 (3 * i + 1), (if ct_is1 e.1 (Int32.ofNat 1) = true then s2 else s)), ((cm_wI S 9 4 (Int32.ofNat rest.length)).1 8 (3 * i + 2), (if ct_is1 e.1 (Int32.ofNat 2) = true then s2 else s))]; rw [g0, g01, g02]
        · rcases List.mem_cons.mp hc with hc | hc
          · subst hc; exact ch0
          · rcases List.mem_cons.mp hc with hc | hc
            · subst hc; exact ch1
            · rw [List.mem_singleton] at hc; subst hc; exact ch2 k6
        · rcases List.mem_cons.mp hc with hc | hc
          · subst hc; exact Or.inl rfl
          · rcases List.mem_cons.mp hc with hc | hc
            · subst hc; exact Or.inr (Or.inl rfl)
            · rw [List.mem_singleton] at hc; subst hc; exact Or.inr (Or.inr rfl)
    · rw [ct_sz_nd, ha.2, hb.2, hc.2, hwt]
end CP55
