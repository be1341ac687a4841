/-! ## 52 what holds of the tree of a node -/
theorem ct_us_m1 {σ : Int32 → Int32} {y : Int32} : ct_us σ (-1) y = σ := by
  funext z
  exact if_pos rfl
theorem ct_us_rg {σ : Int32 → Int32} {x y z : Int32} (G : ct_G) (h : ∀ v, ¬ σ v = -1 → G (σ v)) (hz : ¬ ct_us σ x y z = -1) : G (ct_us σ x y z) ∨ ct_us σ x y z = y := by
  unfold ct_us at hz ⊢
  split
  · next hx => rw [if_pos hx] at hz; exact Or.inl (h _ hz)
  · next hx =>
    rw [if_neg hx] at hz
    split
    · exact Or.inr rfl
    · next hzx => rw [if_neg hzx] at hz; exact Or.inl (h _ hz)
theorem ct_us_nb {σ : Int32 → Int32} {x y : Int32} (h : ∀ v, ct_nb1 (σ v)) (hy : ct_nb1 y) : ∀ v, ct_nb1 (ct_us σ x y v) := by
  intro v
  unfold ct_us
  split
  · exact h v
  · split
    · exact hy
    · exact h v
theorem ct_ob_vw {dd : ct_D} {n : Int64} {v w v2 w2 y : Int32} (hn : ct_nw (dd.1, n, v, w)) (h3 : dd.2.2.1 = if v = -1 then -1 else v2) (h4 : dd.2.2.2 = if w = -1 then -1 else w2) (h : y ∈ ct_ob dd) : y = v2 ∨ y = w2 := by
  obtain ⟨q1, q2, q3⟩ := hn
  unfold ct_ob at h
  split at h
  · next h12 =>
    have := q2 h12
    rcases List.mem_cons.mp h with h | h
    · exact Or.inl (h.trans (h3.trans (if_neg this.1)))
    · rcases List.mem_cons.mp h with h | h
      · exact Or.inr (h.trans (h4.trans (if_neg this.2.1)))
      · cases h
  · split at h
    · next h48 =>
      have := q1 (Or.inr h48)
      rcases List.mem_cons.mp h with h | h
      · exact Or.inl (h.trans (h3.trans (if_neg this.1)))
      · cases h
    · cases h
theorem ct_xp_all {N : List ct_E} (hN : ct_vs N) : ∀ (g : Nat) (i : Int32) σ p, ct_px g i → g ≤ N.length → ct_xp N i σ p (ct_ex N g i σ p) := by
  intro g i σ p hi hg
  have hl := hN.1
  refine (ct_ex_ind hN (P := ct_xp N) (fun σ p => ?_) (fun i e σ p he hv hk => ?_) (fun i e σ p a b c he hv hk ha hb hc la lb lc => ?_) g i σ p hi hg).1
  · refine ⟨by rw [ct_w_m1]; rfl, trivial, fun e he => (by cases he), fun y hy => (by cases hy), fun _ => List.nodup_nil, fun _ _ e he => (by cases he), fun _ _ e he => (by cases he), fun _ _ _ => trivial⟩
  · have hil : i < N.length := (List.getElem?_eq_some_iff.mp he).1
    obtain ⟨v1, v2, v3, v4, v5, v6, v7, v8, v9, v10, v11⟩ := hv
    have har : ct_ar e.1 = 0 := by rw [hk]; decide +kernel
    have ff := v2.2 (by omega)
    have fs := v3.2 (by omega)
    have ft := v4.2 (by omega)
    have hfl : ct_fl (ct_nd (e.1, e.2.1, σ e.2.2.1, -1) .leaf .leaf .leaf) = [(e.1, e.2.1, σ e.2.2.1, -1)] := rfl
    have hob : ct_ob (e.1, e.2.1, σ e.2.2.1, -1) = [] := ct_ob_2 hk
    have hbl : ct_bl (ct_fl (ct_nd (e.1, e.2.1, σ e.2.2.1, -1) .leaf .leaf .leaf)) = [] := by
      rw [hfl]; show ct_ob _ ++ [] = []; rw [hob]; rfl
    refine ⟨?_, ?_, ?_, ?_, ?_, ?_, ?_, ?_⟩
    · rw [ct_w_at (by omega) he, v10, ff, fs, ft, ct_w_m1]; rfl
    · exact ⟨rfl, rfl, rfl, v1, ⟨fun _ => by rw [har]; omega, fun _ => rfl⟩, ⟨fun _ => by rw [har]; omega, fun _ => rfl⟩, ⟨fun _ => by rw [har]; omega, fun _ => rfl⟩, trivial, trivial, trivial⟩
    · intro e2 h2
      rw [hfl, List.mem_singleton] at h2
      subst h2
      exact v6
    · intro y hy
      rw [hbl] at hy; cases hy
    · intro _; rw [hbl]; exact List.nodup_nil
    · intro _ hs e2 h2
      rw [hfl, List.mem_singleton] at h2
      subst h2
      exact ⟨hs _, Or.inl rfl⟩
    · intro _ hfx e2 h2
      have h3 := hfx e2 h2
      rw [hfl, List.mem_singleton] at h2
      subst h2
      refine ⟨fun _ => ⟨h3 hk, rfl⟩, fun h12 => ?_, fun h => absurd (Or.inl hk) h⟩
      have h12 : e.1 = 12 := h12
      rw [hk] at h12; exact absurd h12 (by decide)
    · intro G hG hfx
      rw [ct_lx_nd, if_pos hk]
      exact hG _ (hfx _ (by rw [hfl]; exact List.mem_cons_self) hk)
  · have hil : i < N.length := (List.getElem?_eq_some_iff.mp he).1
    obtain ⟨v1, v2, v3, v4, v5, v6, v7, v8, v9, v10, v11⟩ := hv
    obtain ⟨a1, a2, a3, a4, a5, a6, a7, a8⟩ := ha
    obtain ⟨b1, b2, b3, b4, b5, b6, b7, b8⟩ := hb
    obtain ⟨c1, c2, c3, c4, c5, c6, c7, c8⟩ := hc
    have m1 := ct_pp_m1 v2 (by omega)
    have m2 := ct_pp_m1 v3 (by omega)
    have m3 := ct_pp_m1 v4 (by omega)
    have hwt : ct_w N (Int32.ofNat i) = 1 + (ct_sz a + (ct_sz b + ct_sz c)) := by rw [ct_w_at (by omega) he, v10, a1, b1, c1]; omega
    have hoby : ∀ y, y ∈ ct_ob (e.1, e.2.1, (if e.2.2.1 = -1 then -1 else Int32.ofNat (2 * p)), (if e.2.2.2.1 = -1 then -1 else Int32.ofNat (2 * p + 1))) → y = Int32.ofNat (2 * p) ∨ y = Int32.ofNat (2 * p + 1) := fun y hy => ct_ob_vw (n := e.2.1) (v := e.2.2.1) (w := e.2.2.2.1) v5 rfl rfl hy
    generalize hd : ((e.1, e.2.1, (if e.2.2.1 = -1 then -1 else Int32.ofNat (2 * p)), (if e.2.2.2.1 = -1 then -1 else Int32.ofNat (2 * p + 1))) : ct_D) = dd at hoby
    have d1 : dd.1 = e.1 := by rw [← hd]
    have d2 : dd.2.1 = e.2.1 := by rw [← hd]
    have d3 : dd.2.2.1 = (if e.2.2.1 = -1 then -1 else Int32.ofNat (2 * p)) := by rw [← hd]
    have d4 : dd.2.2.2 = (if e.2.2.2.1 = -1 then -1 else Int32.ofNat (2 * p + 1)) := by rw [← hd]
    have hbl : ct_bl (ct_fl (ct_nd dd a b c)) = ct_ob dd ++ (ct_bl (ct_fl a) ++ (ct_bl (ct_fl b) ++ ct_bl (ct_fl c))) := by
      rw [ct_fl_nd]; show ct_ob dd ++ ct_bl (ct_fl a ++ (ct_fl b ++ ct_fl c)) = _
      rw [ct_bl_app, ct_bl_app]
    rw [a1.symm] at b4 c4 b5 c5 b6 c6 b7 c7
    rw [b1.symm] at c4 c5 c6 c7
    have hsz : ct_sz (ct_nd dd a b c) = 1 + (ct_sz a + (ct_sz b + ct_sz c)) := rfl
    refine ⟨by rw [hsz, hwt], ?_, ?_, ?_, ?_, ?_, ?_, ?_⟩
    · exact ⟨rfl, rfl, rfl, by rw [d1]; exact v1, by rw [← la, m1, d1]; omega, by rw [← lb, m2, d1]; omega, by rw [← lc, m3, d1]; omega, a2, b2, c2⟩
    · intro e2 h2
      rw [ct_fl_nd] at h2
      rcases List.mem_cons.mp h2 with h2 | h2
      · subst h2
        unfold ct_nu
        rw [d1, d2]
        exact v6
      · rcases List.mem_append.mp h2 with h2 | h2
        · exact a3 e2 h2
        · rcases List.mem_append.mp h2 with h2 | h2
          · exact b3 e2 h2
          · exact c3 e2 h2
    · intro y hy
      rw [hbl] at hy
      rw [hsz]
      rcases List.mem_append.mp hy with hy | hy
      · exact ⟨p, Nat.le_refl _, by omega, hoby y hy⟩
      · rcases List.mem_append.mp hy with hy | hy
        · obtain ⟨q, q1, q2, q3⟩ := a4 y hy
          exact ⟨q, by omega, by omega, q3⟩
        · rcases List.mem_append.mp hy with hy | hy
          · obtain ⟨q, q1, q2, q3⟩ := b4 y hy
            exact ⟨q, by omega, by omega, q3⟩
          · obtain ⟨q, q1, q2, q3⟩ := c4 y hy
            exact ⟨q, by omega, by omega, q3⟩
    · intro hp
      rw [hsz] at hp
      have ne : ∀ {q r : Nat} {y z : Int32}, q < r → r < 200000 → (y = Int32.ofNat (2 * q) ∨ y = Int32.ofNat (2 * q + 1)) → (z = Int32.ofNat (2 * r) ∨ z = Int32.ofNat (2 * r + 1)) → ¬ y = z := by
        intro q r y z h1 h2 h3 h4 h5
        rcases h3 with rfl | rfl <;> rcases h4 with rfl | rfl <;> rw [cp_inj (by omega) (by omega)] at h5 <;> omega
      rw [hbl, List.nodup_append, List.nodup_append, List.nodup_append]
      refine ⟨?_, ⟨a5 (by omega), ⟨b5 (by omega), c5 (by omega), fun y hy z hz => ?_⟩, fun y hy z hz => ?_⟩, fun y hy z hz => ?_⟩
      · unfold ct_ob
        split
        · next h12 =>
          have q := v5.2.1 (by rw [d1] at h12; exact h12)
          rw [d3, d4, if_neg q.1, if_neg q.2.1, List.nodup_cons]
          refine ⟨fun hc => ?_, List.nodup_cons.mpr ⟨fun h => (by cases h), List.nodup_nil⟩⟩
          rw [List.mem_singleton, cp_inj (by omega) (by omega)] at hc
          omega
        · split
          · exact List.nodup_cons.mpr ⟨fun h => (by cases h), List.nodup_nil⟩
          · exact List.nodup_nil
      · obtain ⟨q, q1, q2, q3⟩ := b4 y hy
        obtain ⟨r, r1, r2, r3⟩ := c4 z hz
        exact ne (by omega) (by omega) q3 r3
      · obtain ⟨q, q1, q2, q3⟩ := a4 y hy
        rcases List.mem_append.mp hz with hz | hz
        · obtain ⟨r, r1, r2, r3⟩ := b4 z hz
          exact ne (by omega) (by omega) q3 r3
        · obtain ⟨r, r1, r2, r3⟩ := c4 z hz
          exact ne (by omega) (by omega) q3 r3
      · have q3 := hoby y hy
        rcases List.mem_append.mp hz with hz | hz
        · obtain ⟨r, r1, r2, r3⟩ := a4 z hz
          exact ne (by omega) (by omega) q3 r3
        · rcases List.mem_append.mp hz with hz | hz
          · obtain ⟨r, r1, r2, r3⟩ := b4 z hz
            exact ne (by omega) (by omega) q3 r3
          · obtain ⟨r, r1, r2, r3⟩ := c4 z hz
            exact ne (by omega) (by omega) q3 r3
    · intro hp hs
      rw [hsz] at hp
      have n1 : ct_nb1 (Int32.ofNat (2 * p)) := Or.inr (by rw [cp_tI (by omega)]; omega)
      have n2 : ct_nb1 (Int32.ofNat (2 * p + 1)) := Or.inr (by rw [cp_tI (by omega)]; omega)
      have s2 := ct_us_nb (x := e.2.2.2.1) (ct_us_nb (x := e.2.2.1) hs n1) n2
      have sa : ∀ v, ct_nb1 ((if e.1 = 6 ∨ e.1 = 12 then σ else ct_us (ct_us σ e.2.2.1 (Int32.ofNat (2 * p))) e.2.2.2.1 (Int32.ofNat (2 * p + 1))) v) := fun v => by
        split
        · exact hs v
        · exact s2 v
      have sb : ∀ v, ct_nb1 ((if e.1 = 12 then σ else ct_us (ct_us σ e.2.2.1 (Int32.ofNat (2 * p))) e.2.2.2.1 (Int32.ofNat (2 * p + 1))) v) := fun v => by
        split
        · exact hs v
        · exact s2 v
      intro e2 h2
      rw [ct_fl_nd] at h2
      rcases List.mem_cons.mp h2 with h2 | h2
      · subst h2
        rw [d3, d4]
        refine ⟨?_, ?_⟩
        · split
          · exact Or.inl rfl
          · exact n1
        · split
          · exact Or.inl rfl
          · exact n2
      · rcases List.mem_append.mp h2 with h2 | h2
        · exact a6 (by omega) sa e2 h2
        · rcases List.mem_append.mp h2 with h2 | h2
          · exact b6 (by omega) sb e2 h2
          · exact c6 (by omega) s2 e2 h2
    · intro hp hfx
      rw [hsz] at hp
      obtain ⟨f0, fa, fb, fc⟩ := ct_fl_sub hfx
      intro e2 h2
      rw [ct_fl_nd] at h2
      rcases List.mem_cons.mp h2 with h2 | h2
      · subst h2
        obtain ⟨q1, q2, q3⟩ := v5
        unfold ct_nw
        rw [d1, d3, d4]
        have x1 := cp_m1 (n := 2 * p) (by omega)
        have x2 := cp_m1 (n := 2 * p + 1) (by omega)
        refine ⟨fun h => ?_, fun h => ?_, fun h => ?_⟩
        · have := q1 h
          rw [if_neg this.1, if_pos this.2]
          exact ⟨x1, rfl⟩
        · have := q2 h
          rw [if_neg this.1, if_neg this.2.1]
          exact ⟨x1, x2, fun hc => by rw [cp_inj (by omega) (by omega)] at hc; omega⟩
        · have := q3 h
          rw [if_pos this.1, if_pos this.2]
          exact ⟨rfl, rfl⟩
      · rcases List.mem_append.mp h2 with h2 | h2
        · exact a7 (by omega) fa e2 h2
        · rcases List.mem_append.mp h2 with h2 | h2
          · exact b7 (by omega) fb e2 h2
          · exact c7 (by omega) fc e2 h2
    · intro G hG hfx
      obtain ⟨f0, fa, fb, fc⟩ := ct_fl_sub hfx
      obtain ⟨q1, q2, q3⟩ := v5
      rw [ct_lx_nd, d1, if_neg hk]
      by_cases k47 : e.1 = 4 ∨ e.1 = 7
      · have hn := q1 (by rcases k47 with h | h; exact Or.inr (Or.inl h); exact Or.inr (Or.inr (Or.inr (Or.inl h))))
        have hw : e.2.2.2.1 = -1 := hn.2
        have hv : ¬ e.2.2.1 = -1 := hn.1
        have k6 : ¬ (e.1 = 6 ∨ e.1 = 12) := by rcases k47 with h | h <;> rw [h] <;> decide
        rw [if_pos k47, d3, if_neg hv]
        rw [if_neg k6, hw, ct_us_m1] at a8
        rw [if_neg (fun h => k6 (Or.inr h)), hw, ct_us_m1] at b8
        rw [hw, ct_us_m1] at c8
        have hG2 : ∀ v, ¬ ct_us σ e.2.2.1 (Int32.ofNat (2 * p)) v = -1 → ct_ga G (Int32.ofNat (2 * p)) (ct_us σ e.2.2.1 (Int32.ofNat (2 * p)) v) := fun v h => ct_us_rg G hG h
        exact ⟨a8 _ hG2 fa, b8 _ hG2 fb, c8 _ hG2 fc⟩
      · rw [if_neg k47]
        by_cases k68 : e.1 = 6 ∨ e.1 = 8
        · have k6 : e.1 = 6 := by rcases k68 with h | h; exact h; exact absurd h v9
          have hn := q1 (Or.inr (Or.inr (Or.inl k6)))
          have hw : e.2.2.2.1 = -1 := hn.2
          have hv : ¬ e.2.2.1 = -1 := hn.1
          have k12 : ¬ e.1 = 12 := by rw [k6]; decide
          rw [if_pos k68, d3, if_neg hv]
          rw [if_pos (Or.inl k6)] at a8
          rw [if_neg k12, hw, ct_us_m1] at b8
          rw [hw, ct_us_m1] at c8
          have hG2 : ∀ v, ¬ ct_us σ e.2.2.1 (Int32.ofNat (2 * p)) v = -1 → ct_ga G (Int32.ofNat (2 * p)) (ct_us σ e.2.2.1 (Int32.ofNat (2 * p)) v) := fun v h => ct_us_rg G hG h
          exact ⟨a8 _ hG fa, b8 _ hG2 fb, c8 _ hG2 fc⟩
        · rw [if_neg k68]
          by_cases k12 : e.1 = 12
          · have hn := q2 k12
            have hw : ¬ e.2.2.2.1 = -1 := hn.2.1
            have hv : ¬ e.2.2.1 = -1 := hn.1
            rw [if_pos k12, d3, d4, if_neg hv, if_neg hw]
            rw [if_pos (Or.inr k12)] at a8
            rw [if_pos k12] at b8
            have hG2 : ∀ v, ¬ ct_us (ct_us σ e.2.2.1 (Int32.ofNat (2 * p))) e.2.2.2.1 (Int32.ofNat (2 * p + 1)) v = -1 → ct_ga (ct_ga G (Int32.ofNat (2 * p))) (Int32.ofNat (2 * p + 1)) (ct_us (ct_us σ e.2.2.1 (Int32.ofNat (2 * p))) e.2.2.2.1 (Int32.ofNat (2 * p + 1)) v) := fun v h => ct_us_rg _ (fun v h => ct_us_rg G hG h) h
            exact ⟨a8 _ hG fa, b8 _ hG fb, c8 _ hG2 fc⟩
          · rw [if_neg k12]
            have hn := q3 (fun h => by
              rcases h with h | h | h | h | h | h
              · exact hk h
              · exact k47 (Or.inl h)
              · exact k68 (Or.inl h)
              · exact k47 (Or.inr h)
              · exact k68 (Or.inr h)
              · exact k12 h)
            have hv : e.2.2.1 = -1 := hn.1
            have hw : e.2.2.2.1 = -1 := hn.2
            rw [if_neg (fun h => by rcases h with h | h; exact k68 (Or.inl h); exact k12 h), hv, hw, ct_us_m1, ct_us_m1] at a8
            rw [if_neg k12, hv, hw, ct_us_m1, ct_us_m1] at b8
            rw [hv, hw, ct_us_m1, ct_us_m1] at c8
            exact ⟨a8 _ hG fa, b8 _ hG fb, c8 _ hG fc⟩
