/-! ## 60 the model reads a node: all of it -/
theorem cl_rs_al {N : List ct_E} {B : List Int32} {S S1 : cm_S} {σ : Int32 → Int32} {nx nx2 m i : Nat} (h : cl_rs N B S σ nx m) (hc : cf_W (cW_nd i) S S1) (al : cl_al S1 [] nx2) : cl_rs N B S1 σ nx2 m := by
  obtain ⟨⟨n1, n2, n3⟩, _, g3, g4, g5⟩ := h
  have h1 : ∀ r j, 84 ≤ r → r ≤ 91 → cW_nd i r j = false := fun r j q1 q2 => decide_eq_false (by omega)
  refine ⟨⟨n1, (hc 83 0 (decide_eq_false (by omega))).1.trans n2, fun i e he => ?_⟩, al, (hc 83 20 (decide_eq_false (by omega))).1.trans g3, fun v hv => (hc _ _ (h1 91 v (by omega) (by omega))).1.trans (g4 v hv), by rw [(hc 83 9 (decide_eq_false (by omega))).1]; exact g5⟩
  obtain ⟨e1, e2, e3, e4, e5, e6, e7⟩ := n3 i e he
  exact ⟨(hc _ _ (h1 84 i (by omega) (by omega))).1.trans e1, (hc _ _ (h1 85 i (by omega) (by omega))).2.trans e2, (hc _ _ (h1 86 i (by omega) (by omega))).1.trans e3, (hc _ _ (h1 87 i (by omega) (by omega))).1.trans e4, (hc _ _ (h1 88 i (by omega) (by omega))).1.trans e5, (hc _ _ (h1 89 i (by omega) (by omega))).1.trans e6, (hc _ _ (h1 90 i (by omega) (by omega))).1.trans e7⟩
theorem cl_rs_9 {N : List ct_E} {B : List Int32} {S : cm_S} {σ : Int32 → Int32} {nx m : Nat} {z : Int32} (hz : z = 0 ∨ z = 1) (h : cl_rs N B S σ nx m) : cl_rs N B (cm_wI S 83 9 z) σ nx m := by
  obtain ⟨⟨n1, n2, n3⟩, ⟨a1, a2, a3⟩, g3, g4, g5⟩ := h
  have hc : cf_W (fun b j => decide (b = 83 ∧ j = 9)) S (cm_wI S 83 9 z) := cf_wI (decide_eq_true ⟨rfl, rfl⟩)
  have h1 : ∀ r j, 84 ≤ r → (decide (r = 83 ∧ j = 9)) = false := fun r j h => decide_eq_false (by omega)
  refine ⟨⟨n1, (hc _ _ (by decide)).1.trans n2, fun i e he => ?_⟩, ⟨(hc _ _ (by decide)).1.trans a1, (hc _ _ (by decide)).1.trans a2, trivial⟩, (hc _ _ (by decide)).1.trans g3, fun v hv => (hc _ _ (h1 91 v (by omega))).1.trans (g4 v hv), by rw [cp_wI1, if_pos ⟨rfl, rfl⟩]; exact hz⟩
  obtain ⟨e1, e2, e3, e4, e5, e6, e7⟩ := n3 i e he
  exact ⟨(hc _ _ (h1 84 i (by omega))).1.trans e1, (hc _ _ (h1 85 i (by omega))).2.trans e2, (hc _ _ (h1 86 i (by omega))).1.trans e3, (hc _ _ (h1 87 i (by omega))).1.trans e4, (hc _ _ (h1 88 i (by omega))).1.trans e5, (hc _ _ (h1 89 i (by omega))).1.trans e6, (hc _ _ (h1 90 i (by omega))).1.trans e7⟩
theorem ct_v26 {v : Int32} (h : v = -1 ∨ 0 ≤ v.toInt ∧ v.toInt < 26) (hn : ¬ v = -1) : ∃ n, n < 26 ∧ v = Int32.ofNat n := by
  rcases h with h | h
  · exact absurd h hn
  · obtain ⟨n, h1, h2, h3⟩ := cp_of h.1
    exact ⟨n, by omega, h1⟩
section CP60
variable {L : Nat} {xs : Nat → Int32} {N : List ct_E} {B : List Int32}
theorem cp_196 (hN : ct_vs N) (hnd : B.Nodup) (hB0 : ∀ y, y ∈ B → 0 ≤ y.toInt) (hlB : B.length ≤ 32768) : ∀ (g : Nat) (i : Int32) σ p, ct_px g i → g ≤ N.length → cl_rd L xs N B i σ (ct_ex N g i σ p) := by
  intro g i σ p hi hg
  have hl := hN.1
  have w0 : ct_wf .leaf := trivial
  have hm1 := ct_fr_m1 (n := 0) hB0
  refine (ct_ex_ind hN (P := fun i σ _ t => cl_rd L xs N B i σ t) (fun σ p => ?_) (fun i e σ p he hv hk => ?_) (fun i e σ p a b c he hv hk ha hb hc la lb lc => ?_) g i σ p hi hg).1
  · intro wt D S nx P R K hD hB hcap hs k
    obtain ⟨D, rfl⟩ : ∃ d, D = d + 1 := ⟨D - 1, by omega⟩
    refine cx_196_0 _ ⟨fun _ => ?_, fun h => absurd rfl h⟩
    exact k S (-1) ⟨rfl, rfl⟩ hs ⟨fun _ => rfl, fun h => absurd (fun e he => by cases he) h⟩ cf_rfl
  · obtain ⟨v1, v2, v3, v4, v5, v6, v7, v8, v9, v10, v11⟩ := hv
    obtain ⟨n1, n2⟩ := v5.1 (Or.inl hk)
    obtain ⟨v, hv26, hve⟩ := ct_v26 v7 n1
    intro wt D S nx P R K hD hB hcap hs k
    obtain ⟨D, rfl⟩ : ∃ d, D = d + 3 := ⟨D - 3, by omega⟩
    have hi : i < 120 := by have := (List.getElem?_eq_some_iff.mp he).1; omega
    rw [ct_sz_nd] at hcap hD k
    have hn : nx < 8192 := by omega
    refine cx_196_0 _ ⟨fun h => absurd h (cp_m1 (by omega)), fun _ => ⟨cp_in hi (by decide), ?_⟩⟩
    rw [cp_cl (show i < 2147483648 by omega), (cl_rs_row hs he).1]
    rintro _ rfl
    refine cp_193 (d := D + 1) hs.2.1 ⟨Nat.zero_le _, by omega, fun x hx => by cases hx⟩ (fun _ => hn) (fun S1 j hj1 hj al1 c1 row1 => cp_r1 ⟨cp_in hi (by decide), ?_⟩)
    rw [ct_tk_rg] at hj1 al1
    have hjn : [nx] = [j] := hj1
    injection hjn with hjn _
    subst hjn
    obtain ⟨r1, r2, r3, r4, r5, r6, r7⟩ := row1
    rw [(c1 85 i (decide_eq_false (by omega))).2, (cl_rs_row hs he).2.1]
    rintro _ rfl
    refine ⟨cp_in hn (by decide), ?_⟩
    rw [cp_cl (show nx < 2147483648 by omega)]
    rintro _ rfl
    have s1 : cl_rs N B S1 σ (nx + 1) P.length := cl_rs_al hs c1 al1
    have s7 : cl_rs N B (cm_wJ S1 93 nx e.2.1) σ (nx + 1) P.length := cl_rs_fr (W := fun b _ => decide (b = 93)) (cf_wJ (decide_eq_true rfl)) ⟨decide_eq_false (by omega), decide_eq_false (by omega), decide_eq_false (by omega), decide_eq_false (by omega), decide_eq_false (by omega)⟩ (fun b _ q1 q2 => decide_eq_false (by omega)) s1
    have g7 : cl_sg (cm_wJ S1 93 nx e.2.1) nx (e.1, e.2.1, -1, -1) .leaf [] .leaf [] .leaf [] := ⟨by
      rw [cp_wJ2, if_pos ⟨rfl, rfl⟩]
      show (S1.1 92 nx, _, S1.1 97 nx, S1.1 98 nx) = _
      rw [r1, r6, r7], ⟨r3, rfl⟩, ⟨r4, rfl⟩, ⟨r5, rfl⟩⟩
    have f7 : (cm_wJ S1 93 nx e.2.1).1 83 9 = S.1 83 9 := (c1 83 9 (decide_eq_false (by omega))).1
    have c7 : cf_W (cW_rd nx 1) S (cm_wJ S1 93 nx e.2.1) := cf_tr (cf_mono c1 (fun b j h => decide_eq_true (by have h := of_decide_eq_true h; omega))) (cf_wJ (decide_eq_true (by omega)))
    generalize cm_wJ S1 93 nx e.2.1 = S7 at s7 g7 f7 c7 ⊢
    refine ⟨cp_in hi (by decide), ?_⟩
    rw [(cl_rs_row s7 he).1]
    rintro _ rfl
    have hnm : ct_nm e.1 e.2.2.1 e.2.2.2.1 = Int32.ofNat v := by
      unfold ct_nm
      rw [if_neg (by rw [hk]; decide), if_neg n1, hve]
    have hfx : ct_fx (ct_nd (e.1, e.2.1, σ e.2.2.1, -1) .leaf .leaf .leaf) ↔ ¬ σ e.2.2.1 = -1 := by
      unfold ct_fx
      rw [ct_fl_nd]
      refine ⟨fun h => h _ List.mem_cons_self hk, fun h e2 he2 _ => ?_⟩
      rcases List.mem_cons.mp he2 with he2 | he2
      · rw [he2]; exact h
      · cases he2
    have hbo : ct_bo (ct_nd (e.1, e.2.1, σ e.2.2.1, -1) .leaf .leaf .leaf) = [] := by
      rw [ct_bo_nd, hk]
      rfl
    have hrd : ∀ x, S7.1 91 v = x → x = ct_fr 0 B (σ e.2.2.1) := fun x hx => by rw [← hx, s7.2.2.2.1 v hv26, ← hve]
    have fin : ∀ z : Int32, (z = 0 ∨ z = 1) → cl_fg (¬ σ e.2.2.1 = -1) (S.1 83 9) z → am_in (Int32.ofNat i) 120 ∧ ∀ x81, x81 = (cm_wI S7 83 9 z).1 86 i → (am_in x81 26 ∧ ∀ x82, x82 = (cm_wI S7 83 9 z).1 91 x81.toNatClampNeg → (am_in (Int32.ofNat nx) 8192 ∧ ∀ S83, S83 = cm_wI (cm_wI S7 83 9 z) 97 nx x82 → (cm_sh K 0) (.inl (some (.int (Int32.ofNat nx)))) S83 0)) := by
      intro z hz hfg
      have s8 := cl_rs_9 hz s7
      refine ⟨cp_in hi (by decide), ?_⟩
      rw [(cl_rs_row s8 he).2.2.1, hnm]
      rintro _ rfl
      refine ⟨cp_in hv26 (by decide), ?_⟩
      rw [cp_cl (show v < 2147483648 by omega), s8.2.2.2.1 v hv26, ← hve]
      rintro _ rfl
      refine ⟨cp_in hn (by decide), ?_⟩
      rintro _ rfl
      try dsimp only [cm_sh]
      have g8 := cl_sg_97 (x := ct_fr 0 B (σ e.2.2.1)) w0 w0 w0 (fun x hx => by simp at hx) (cl_sg_wo (x := z) (j := 9) w0 w0 w0 (show ¬ (92 ≤ 83 ∧ 83 ≤ 98) by omega) g7)
      refine k _ (Int32.ofNat nx) ?_ ?_ ?_ ?_
      · have h := cl_sg_t (B := B) (a := .leaf) (b := .leaf) (c := .leaf) hn g8
        rw [ct_map_nd]
        show cl_t _ (ct_nd (e.1, e.2.1, ct_fr 0 B (σ e.2.2.1), ct_fr 0 B (-1)) _ _ _) _ _
        rw [hm1]
        exact h
      · rw [hbo]
        exact cl_rs_w (by omega) (by omega) s8
      · rw [cp_wI1, if_neg (by omega), cp_wI1, if_pos ⟨rfl, rfl⟩]
        exact ⟨fun h => hfg.1 (hfx.mp h), fun h => hfg.2 (fun hc => h (hfx.mpr hc))⟩
      · exact cf_tr (cW_rd_mono (Nat.le_refl _) (by omega) c7) (cf_tr (cf_wI (decide_eq_true (by omega))) (cf_wI (decide_eq_true (by omega))))
    refine ⟨fun _ => ?_, fun h => absurd hk h⟩
    rintro _ rfl
    rw [f7]
    refine ⟨fun h0 => ⟨cp_in hi (by decide), ?_⟩, fun h0 => ⟨Or.inr rfl, ?_⟩⟩
    · rw [(cl_rs_row s7 he).2.2.1, hnm]
      rintro _ rfl
      refine ⟨cp_in hv26 (by decide), ?_⟩
      rw [cp_cl (show v < 2147483648 by omega), s7.2.2.2.1 v hv26, ← hve]
      rintro _ rfl
      refine ⟨fun h => ⟨Or.inr rfl, ?_⟩, fun h => ⟨Or.inl rfl, ?_⟩⟩
      · rintro _ rfl
        exact fin 1 (Or.inr rfl) ⟨fun hc => absurd ((ct_fr_neg hB0 hlB).mp h) hc, fun _ => rfl⟩
      · rintro _ rfl
        exact fin 0 (Or.inl rfl) ⟨fun _ => h0.symm, fun hc => absurd ((ct_fr_neg hB0 hlB).mpr (Classical.byContradiction hc)) h⟩
    · rintro _ rfl
      exact fin 1 (Or.inr rfl) ⟨fun _ => (hs.2.2.2.2.resolve_left h0).symm, fun _ => rfl⟩
  · obtain ⟨v1, v2, v3, v4, v5, v6, v7, v8, v9, v10, v11⟩ := hv
    have hd : ∃ dd : ct_D, dd = (e.1, e.2.1, (if e.2.2.1 = -1 then -1 else Int32.ofNat (2 * p)), (if e.2.2.2.1 = -1 then -1 else Int32.ofNat (2 * p + 1))) := ⟨_, rfl⟩
    obtain ⟨dd, hd⟩ := hd
    rw [← hd]
    have hd1 : dd.1 = e.1 := by rw [hd]
    have hrd : ct_rd (ct_fr 0 B) dd = (e.1, e.2.1, ct_fr 0 B (if e.2.2.1 = -1 then -1 else Int32.ofNat (2 * p)), ct_fr 0 B (if e.2.2.2.1 = -1 then -1 else Int32.ofNat (2 * p + 1))) := by rw [hd]; rfl
    have hd3 : dd.2.2.1 = (if e.2.2.1 = -1 then -1 else Int32.ofNat (2 * p)) := by rw [hd]
    have hd4 : dd.2.2.2 = (if e.2.2.2.1 = -1 then -1 else Int32.ofNat (2 * p + 1)) := by rw [hd]
    clear hd
    intro wt D S nx P R K hD hB hcap hs k
    obtain ⟨D, rfl⟩ : ∃ d, D = d + 3 := ⟨D - 3, by omega⟩
    have hi : i < 120 := by have := (List.getElem?_eq_some_iff.mp he).1; omega
    rw [ct_sz_nd] at hcap hD k
    have hn : nx < 8192 := by omega
    refine cx_196_0 _ ⟨fun h => absurd h (cp_m1 (by omega)), fun _ => ⟨cp_in hi (by decide), ?_⟩⟩
    rw [cp_cl (show i < 2147483648 by omega), (cl_rs_row hs he).1]
    rintro _ rfl
    refine cp_193 (d := D + 1) hs.2.1 ⟨Nat.zero_le _, by omega, fun x hx => by cases hx⟩ (fun _ => hn) (fun S1 j hj1 hj al1 c1 row1 => cp_r1 ⟨cp_in hi (by decide), ?_⟩)
    rw [ct_tk_rg] at hj1 al1
    have hjn : [nx] = [j] := hj1
    injection hjn with hjn _
    subst hjn
    obtain ⟨r1, r2, r3, r4, r5, r6, r7⟩ := row1
    rw [(c1 85 i (decide_eq_false (by omega))).2, (cl_rs_row hs he).2.1]
    rintro _ rfl
    refine ⟨cp_in hn (by decide), ?_⟩
    rw [cp_cl (show nx < 2147483648 by omega)]
    rintro _ rfl
    have s1 : cl_rs N B S1 σ (nx + 1) P.length := cl_rs_al hs c1 al1
    have s7 : cl_rs N B (cm_wJ S1 93 nx e.2.1) σ (nx + 1) P.length := cl_rs_fr (W := fun b _ => decide (b = 93)) (cf_wJ (decide_eq_true rfl)) ⟨decide_eq_false (by omega), decide_eq_false (by omega), decide_eq_false (by omega), decide_eq_false (by omega), decide_eq_false (by omega)⟩ (fun b _ q1 q2 => decide_eq_false (by omega)) s1
    have g7 : cl_sg (cm_wJ S1 93 nx e.2.1) nx (e.1, e.2.1, -1, -1) .leaf [] .leaf [] .leaf [] := ⟨by
      rw [cp_wJ2, if_pos ⟨rfl, rfl⟩]
      show (S1.1 92 nx, _, S1.1 97 nx, S1.1 98 nx) = _
      rw [r1, r6, r7], ⟨r3, rfl⟩, ⟨r4, rfl⟩, ⟨r5, rfl⟩⟩
    have f7 : (cm_wJ S1 93 nx e.2.1).1 83 9 = S.1 83 9 := (c1 83 9 (decide_eq_false (by omega))).1
    have c7 : cf_W (cW_rd nx 1) S (cm_wJ S1 93 nx e.2.1) := cf_tr (cf_mono c1 (fun b j h => decide_eq_true (by have h := of_decide_eq_true h; omega))) (cf_wJ (decide_eq_true (by omega)))
    generalize cm_wJ S1 93 nx e.2.1 = S7 at s7 g7 f7 c7 ⊢
    refine ⟨cp_in hi (by decide), ?_⟩
    rw [(cl_rs_row s7 he).1]
    rintro _ rfl
    obtain ⟨_, w2, w3, w4, wa, wb, wc⟩ := ct_wf_nd wt
    rw [hd1] at w2 w3 w4
    have hbo := ct_bo_nd (e := dd) (a := a) (b := b) (c := c)
    rw [hd1, hd3, hd4] at hbo
    rw [hbo] at hB k
    rw [ct_map_nd, hrd] at k
    have hfx := ct_fx_nd (dd := dd) (a := a) (b := b) (c := c) (by rw [hd1]; exact hk)
    refine ⟨fun h => absurd h hk, fun _ => ⟨cp_in hi (by decide), ?_⟩⟩
    rintro _ rfl
    -- all parts are read
    have fin : ∀ (S9 : cm_S) (m : Nat) (d2 : ct_D), d2 = (e.1, e.2.1, ct_fr 0 B (if e.2.2.1 = -1 then -1 else Int32.ofNat (2 * p)), ct_fr 0 B (if e.2.2.2.1 = -1 then -1 else Int32.ofNat (2 * p + 1))) → m = P.length + (ct_bo (ct_nd dd a b c)).length → cl_rs N B S9 σ (nx + 1 + ct_sz a + ct_sz b + ct_sz c) m → cl_sg S9 nx d2 (ct_map (ct_fr 0 B) a) (List.range' (nx + 1) (ct_sz a)) (ct_map (ct_fr 0 B) b) (List.range' (nx + 1 + ct_sz a) (ct_sz b)) (ct_map (ct_fr 0 B) c) (List.range' (nx + 1 + ct_sz a + ct_sz b) (ct_sz c)) → cl_fg (ct_fx a ∧ ct_fx b ∧ ct_fx c) (S.1 83 9) (S9.1 83 9) → cf_W (cW_rd nx (1 + (ct_sz a + (ct_sz b + ct_sz c)))) S S9 → K (.inl (some (.int (Int32.ofNat nx)))) S9 0 := by
      intro S9 m d2 hd2 hm s9 g9 f9 c9
      subst hd2
      refine k S9 (Int32.ofNat nx) (cl_sg_t hn g9) ?_ ⟨fun h => f9.1 (hfx.mp h), fun h => f9.2 (fun hc => h (hfx.mpr hc))⟩ c9
      rw [← hbo, ← hm, show nx + (1 + (ct_sz a + (ct_sz b + ct_sz c))) = nx + 1 + ct_sz a + ct_sz b + ct_sz c by omega]
      exact s9
    rw [hbo] at fin
    clear k
    have z0 : ct_sz .leaf = 0 := rfl
    have r0 : ∀ x, x ∈ ([] : List Nat) ∨ x ∈ ([] : List Nat) ∨ x ∈ ([] : List Nat) → nx < x ∧ x < nx + 1 := fun x hx => by simp at hx
    have ra : ∀ x, x ∈ List.range' (nx + 1) (ct_sz a) ∨ x ∈ ([] : List Nat) ∨ x ∈ ([] : List Nat) → nx < x ∧ x < nx + 1 + ct_sz a := fun x hx => by
      rcases hx with hx | hx | hx
      · have := List.mem_range'_1.mp hx; omega
      · cases hx
      · cases hx
    have rb : ∀ x, x ∈ List.range' (nx + 1) (ct_sz a) ∨ x ∈ List.range' (nx + 1 + ct_sz a) (ct_sz b) → nx < x ∧ x < nx + 1 + ct_sz a + ct_sz b := fun x hx => by
      rcases hx with hx | hx
      · have := List.mem_range'_1.mp hx; omega
      · have := List.mem_range'_1.mp hx; omega
    have ff : cl_fg (ct_fx .leaf) (S7.1 83 9) (S7.1 83 9) := ⟨fun _ => rfl, fun h => absurd (fun e he => by cases he) h⟩
    have fl : ct_fx .leaf := fun e he => by cases he
    rw [← f7] at fin
    refine ⟨fun h4 => ⟨cp_in hi (by decide), ?_⟩, fun h4 => ⟨cp_in hi (by decide), ?_⟩⟩
    · have n1 := v5.1 (Or.inr (Or.inl h4))
      obtain ⟨v, hv26, hve⟩ := ct_v26 v7 n1.1
      have n2 : e.2.2.2.1 = -1 := n1.2
      have n3 : ¬ e.2.2.1 = -1 := n1.1
      have hnm : ct_nm e.1 e.2.2.1 e.2.2.2.1 = Int32.ofNat v := by
        unfold ct_nm
        rw [if_neg (by rw [h4]; decide), if_neg n3, hve]
      have lb0 : b = .leaf := w3.mpr (by rw [h4]; decide +kernel)
      have lc0 : c = .leaf := w4.mpr (by rw [h4]; decide +kernel)
      subst lb0; subst lc0
      rw [if_neg (by rw [h4]; decide), n2, ct_us_m1, hve] at ha
      rw [if_pos (Or.inl h4), if_neg n3] at hB fin
      rw [n2, if_pos rfl, hm1] at fin
      have hB4 : B = P ++ (Int32.ofNat (2 * p) :: (ct_bo a ++ R)) := by rw [hB]; show _ = P ++ (Int32.ofNat (2 * p) :: _); simp [show ct_bo .leaf = [] from rfl]
      rw [ct_fr_at hnd hB4] at fin
      rw [(cl_rs_row s7 he).2.2.1, hnm]
      rintro _ rfl
      refine ⟨cp_in hi (by decide), ?_⟩
      rw [(cl_rs_row s7 he).2.2.2.1]
      rintro _ rfl
      refine cp_197 hnd ha wa w0 w0 w0 (by omega) hv26 hB4 (by omega) s7 g7 (by omega) r0 hn (fun S9 q t9 s9 g9 f9 c9 => cp_r1 ⟨cp_in hn (by decide), ?_⟩)
      rintro _ rfl
      try dsimp only [cm_sh]
      refine fin _ _ _ rfl ?_ (cl_rs_w (by omega) (by omega) s9) (cl_sg_a w0 w0 w0 (ct_map_wf a wa) (fun x hx => by have := r0 x hx; omega) (fun x hx => by have := List.mem_range'_1.mp hx; omega) g9 t9) ?_ (cf_tr (cW_rd_mono (Nat.le_refl _) (by omega) c7) (cf_tr (cW_rd_mono (Nat.le_refl _) (by omega) c9) (cf_wI (decide_eq_true (by omega)))))
      · simp [show ct_bo .leaf = [] from rfl]; omega
      · rw [cp_wI1, if_neg (by omega)]
        exact ⟨fun h => f9.1 h.1, fun h => f9.2 (fun hc => h ⟨hc, fl, fl⟩)⟩
    rintro _ rfl
    refine ⟨fun h6 => ⟨cp_in hi (by decide), ?_⟩, fun h6 => ⟨cp_in hi (by decide), ?_⟩⟩
    · have n1 := v5.1 (Or.inr (Or.inr (Or.inl h6)))
      obtain ⟨v, hv26, hve⟩ := ct_v26 v7 n1.1
      have n2 : e.2.2.2.1 = -1 := n1.2
      have n3 : ¬ e.2.2.1 = -1 := n1.1
      have hnm : ct_nm e.1 e.2.2.1 e.2.2.2.1 = Int32.ofNat v := by
        unfold ct_nm
        rw [if_neg (by rw [h6]; decide), if_neg n3, hve]
      have lc0 : c = .leaf := w4.mpr (by rw [h6]; decide +kernel)
      subst lc0
      rw [if_pos (Or.inl h6)] at ha
      rw [if_neg (by rw [h6]; decide), n2, ct_us_m1, hve] at hb
      have q47 : ¬ (e.1 = 4 ∨ e.1 = 7) := by rw [h6]; decide
      rw [if_neg q47, if_pos (Or.inl h6), if_neg n3] at hB fin
      rw [n2, if_pos rfl, hm1] at fin
      have hB6 : B = (P ++ ct_bo a) ++ (Int32.ofNat (2 * p) :: (ct_bo b ++ R)) := by rw [hB]; simp [show ct_bo .leaf = [] from rfl]
      rw [ct_fr_at hnd hB6] at fin
      rw [(cl_rs_row s7 he).2.2.2.1]
      rintro _ rfl
      refine cp_ra ha wa w0 w0 w0 (by omega) (P := P) (R := Int32.ofNat (2 * p) :: (ct_bo b ++ R)) (by rw [hB6]; simp) (by omega) s7 g7 (by omega) r0 hn (fun S8 s8 g8 f8 c8 => ⟨cp_in hi (by decide), ?_⟩)
      rw [(cl_rs_row s8 he).2.2.1, hnm]
      rintro _ rfl
      refine ⟨cp_in hi (by decide), ?_⟩
      rw [(cl_rs_row s8 he).2.2.2.2.1]
      rintro _ rfl
      refine cp_197 hnd hb wb (ct_map_wf a wa) w0 w0 (by omega) hv26 hB6 (by omega) (by rw [List.length_append]; exact s8) g8 (by omega) ra hn (fun S9 q t9 s9 g9 f9 c9 => cp_r1 ⟨cp_in hn (by decide), ?_⟩)
      rintro _ rfl
      try dsimp only [cm_sh]
      refine fin _ _ _ rfl ?_ (cl_rs_w (by omega) (by omega) s9) (cl_sg_b (ct_map_wf a wa) w0 w0 (ct_map_wf b wb) (fun x hx => by have := ra x hx; omega) (fun x hx => by have := List.mem_range'_1.mp hx; omega) g9 t9) ?_ (cf_tr (cW_rd_mono (Nat.le_refl _) (by omega) c7) (cf_tr (cW_rd_mono (Nat.le_refl _) (by omega) c8) (cf_tr (cW_rd_mono (Nat.le_refl _) (by omega) c9) (cf_wI (decide_eq_true (by omega))))))
      · simp [show ct_bo .leaf = [] from rfl]; omega
      · rw [cp_wI1, if_neg (by omega)]
        have h := cl_fg_and f8 f9
        exact ⟨fun h2 => h.1 ⟨h2.1, h2.2.1⟩, fun h2 => h.2 (fun hc => h2 ⟨hc.1, hc.2, fl⟩)⟩
    rintro _ rfl
    refine ⟨fun h7 => ?_, fun h7 => ⟨cp_in hi (by decide), ?_⟩⟩
    · have n1 := v5.1 (Or.inr (Or.inr (Or.inr (Or.inl h7))))
      obtain ⟨v, hv26, hve⟩ := ct_v26 v7 n1.1
      have n2 : e.2.2.2.1 = -1 := n1.2
      have n3 : ¬ e.2.2.1 = -1 := n1.1
      have hnm : ct_nm e.1 e.2.2.1 e.2.2.2.1 = Int32.ofNat v := by
        unfold ct_nm
        rw [if_neg (by rw [h7]; decide), if_neg n3, hve]
      have lc0 : c = .leaf := w4.mpr (by rw [h7]; decide +kernel)
      subst lc0
      rw [if_neg (by rw [h7]; decide), n2, ct_us_m1, hve] at ha hb
      rw [if_pos (Or.inr h7), if_neg n3] at hB fin
      rw [n2, if_pos rfl, hm1] at fin
      have hB7 : B = P ++ (Int32.ofNat (2 * p) :: (ct_bo a ++ (ct_bo b ++ R))) := by rw [hB]; simp [show ct_bo .leaf = [] from rfl]
      rw [ct_fr_at hnd hB7] at fin
      refine cp_198 hnd he hi hnm hv26 ha hb wa wb (by omega) hB7 (by omega) s7 g7 (fun S9 s9 g9 f9 c9 => cp_r0 ?_)
      try dsimp only [cm_sh]
      refine fin _ _ _ rfl ?_ s9 g9 ?_ (cf_tr (cW_rd_mono (Nat.le_refl _) (by omega) c7) (cW_rd_mono (Nat.le_refl _) (by omega) c9))
      · simp [show ct_bo .leaf = [] from rfl]; omega
      · exact ⟨fun h2 => f9.1 ⟨h2.1, h2.2.1⟩, fun h2 => f9.2 (fun hc => h2 ⟨hc.1, hc.2, fl⟩)⟩
    rintro _ rfl
    refine ⟨fun h12 => ⟨cp_in hi (by decide), ?_⟩, fun h12 => ⟨cp_in hi (by decide), ?_⟩⟩
    · obtain ⟨n3, n4, n5⟩ := v5.2.1 h12
      obtain ⟨v, hv26, hve⟩ := ct_v26 v7 n3
      obtain ⟨w, hw26, hwe⟩ := ct_v26 v8 n4
      have hnm : ct_nm e.1 e.2.2.1 e.2.2.2.1 = 26 * Int32.ofNat v + Int32.ofNat w := by
        unfold ct_nm
        rw [if_pos h12, hve, hwe]
      rw [if_pos (Or.inr h12)] at ha
      rw [if_pos h12] at hb
      rw [hve, hwe] at hc
      have q47 : ¬ (e.1 = 4 ∨ e.1 = 7) := by rw [h12]; decide
      have q68 : ¬ (e.1 = 6 ∨ e.1 = 8) := by rw [h12]; decide
      rw [if_neg q47, if_neg q68, if_pos h12, if_neg n3, if_neg n4] at hB fin
      have hB12 : B = (P ++ (ct_bo a ++ ct_bo b)) ++ (Int32.ofNat (2 * p) :: Int32.ofNat (2 * p + 1) :: (ct_bo c ++ R)) := by rw [hB]; simp
      have hB13 : B = (P ++ (ct_bo a ++ (ct_bo b ++ [Int32.ofNat (2 * p)]))) ++ (Int32.ofNat (2 * p + 1) :: (ct_bo c ++ R)) := by rw [hB]; simp
      rw [ct_fr_at hnd hB12, ct_fr_at hnd hB13] at fin
      rw [(cl_rs_row s7 he).2.2.2.1]
      rintro _ rfl
      refine cp_ra ha wa w0 w0 w0 (by omega) (P := P) (R := ct_bo b ++ (Int32.ofNat (2 * p) :: Int32.ofNat (2 * p + 1) :: (ct_bo c ++ R))) (by rw [hB12]; simp) (by omega) s7 g7 (by omega) r0 hn (fun S8 s8 g8 f8 c8 => ⟨cp_in hi (by decide), ?_⟩)
      rw [(cl_rs_row s8 he).2.2.2.2.1]
      rintro _ rfl
      refine cp_rb hb wb (ct_map_wf a wa) w0 w0 (by omega) (P := P ++ ct_bo a) (R := (Int32.ofNat (2 * p) :: Int32.ofNat (2 * p + 1) :: (ct_bo c ++ R))) (by rw [hB12]; simp) (by omega) (by rw [List.length_append]; exact s8) g8 (by omega) ra hn (fun S9 s9 g9 f9 c9 => ?_)
      refine cp_199 hnd he hi hnm hv26 hw26 hc (ct_map_wf a wa) (ct_map_wf b wb) wc (by omega) hB12 (by omega) (by rw [List.length_append, List.length_append, ← Nat.add_assoc]; rw [List.length_append] at s9; exact s9) g9 (by omega) rb hn (fun S10 s10 g10 f10 c10 => cp_r0 ?_)
      try dsimp only [cm_sh]
      refine fin _ _ _ ?_ ?_ s10 g10 ?_ (cf_tr (cW_rd_mono (Nat.le_refl _) (by omega) c7) (cf_tr (cW_rd_mono (Nat.le_refl _) (by omega) c8) (cf_tr (cW_rd_mono (Nat.le_refl _) (by omega) c9) (cW_rd_mono (Nat.le_refl _) (by omega) c10))))
      · simp [Nat.add_assoc]
      · simp; omega
      · exact cl_fg_and f8 (cl_fg_and f9 f10)
    have hno := v5.2.2 (fun h => by rcases h with h | h | h | h | h | h; exact hk h; exact h4 h; exact h6 h; exact h7 h; exact v9 h; exact h12 h)
    have n3 : e.2.2.1 = -1 := hno.1
    have n4 : e.2.2.2.1 = -1 := hno.2
    rw [n3, n4, ct_us_m1, ct_us_m1] at hc
    rw [n3, n4, ct_us_m1, ct_us_m1, if_neg h12] at hb
    rw [n3, n4, ct_us_m1, ct_us_m1, if_neg (fun h => h.elim h6 h12)] at ha
    have q47 : ¬ (e.1 = 4 ∨ e.1 = 7) := fun h => h.elim h4 h7
    have q68 : ¬ (e.1 = 6 ∨ e.1 = 8) := fun h => h.elim h6 v9
    rw [if_neg q47, if_neg q68, if_neg h12] at hB fin
    rw [n3, n4, if_pos rfl, if_pos rfl, hm1] at fin
    rw [(cl_rs_row s7 he).2.2.2.1]
    rintro _ rfl
    refine cp_ra ha wa w0 w0 w0 (by omega) (P := P) (R := ct_bo b ++ (ct_bo c ++ R)) (by rw [hB]; simp) (by omega) s7 g7 (by omega) r0 hn (fun S8 s8 g8 f8 c8 => ⟨cp_in hi (by decide), ?_⟩)
    rw [(cl_rs_row s8 he).2.2.2.2.1]
    rintro _ rfl
    refine cp_rb hb wb (ct_map_wf a wa) w0 w0 (by omega) (P := P ++ ct_bo a) (R := ct_bo c ++ R) (by rw [hB]; simp) (by omega) (by rw [List.length_append]; exact s8) g8 (by omega) ra hn (fun S9 s9 g9 f9 c9 => ⟨cp_in hi (by decide), ?_⟩)
    rw [(cl_rs_row s9 he).2.2.2.2.2.1]
    rintro _ rfl
    refine cp_rc hc wc (ct_map_wf a wa) (ct_map_wf b wb) w0 (by omega) (lo := nx + 1 + ct_sz a + ct_sz b) (P := P ++ (ct_bo a ++ ct_bo b)) (R := R) (by rw [hB]; simp) (by omega) (by rw [List.length_append, List.length_append, ← Nat.add_assoc]; rw [List.length_append] at s9; exact s9) g9 (by omega) (fun x hx => by
      rcases hx with hx | hx | hx
      · exact rb x (Or.inl hx)
      · exact rb x (Or.inr hx)
      · cases hx) hn (fun S10 s10 g10 f10 c10 => ?_)
    try dsimp only [cm_sh]
    refine fin _ _ _ rfl ?_ s10 g10 (cl_fg_and f8 (cl_fg_and f9 f10)) (cf_tr (cW_rd_mono (Nat.le_refl _) (by omega) c7) (cf_tr (cW_rd_mono (Nat.le_refl _) (by omega) c8) (cf_tr (cW_rd_mono (Nat.le_refl _) (by omega) c9) (cW_rd_mono (Nat.le_refl _) (by omega) c10))))
    simp; omega
end CP60
