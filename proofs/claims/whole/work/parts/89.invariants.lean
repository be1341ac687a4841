/-! ## 89 what holds of trees in a pass -/
def dt_w (t : ct_T) : Prop := ct_wf t ∧ ct_nws t ∧ ct_nus t
theorem dt_w_lf : dt_w .leaf := ⟨trivial, (fun e he => by cases he), fun e he => by cases he⟩
theorem dt_w_nd {e : ct_D} {a b c : ct_T} (h : dt_w (ct_nd e a b c)) : ct_nw e ∧ ct_nu e ∧ dt_w a ∧ dt_w b ∧ dt_w c := by
  obtain ⟨h1, h2, h3⟩ := h
  obtain ⟨w1, w2, w3, w4, w5, w6, w7⟩ := ct_wf_nd h1
  obtain ⟨n1, n2, n3, n4⟩ := ct_nws_nd h2
  obtain ⟨u1, u2, u3, u4⟩ := ct_nus_nd h3
  exact ⟨n1, u1, ⟨w5, n2, u2⟩, ⟨w6, n3, u3⟩, ⟨w7, n4, u4⟩⟩
theorem dt_fl_mk {e : ct_D} {a b c : ct_T} {P : ct_D → Prop} (h : P e) (ha : ∀ x, x ∈ ct_fl a → P x) (hb : ∀ x, x ∈ ct_fl b → P x) (hc : ∀ x, x ∈ ct_fl c → P x) : ∀ x, x ∈ ct_fl (ct_nd e a b c) → P x := by
  intro x hx
  rw [ct_fl_nd] at hx
  rcases List.mem_cons.mp hx with rfl | hx
  · exact h
  · rcases List.mem_append.mp hx with hx | hx
    · exact ha x hx
    · rcases List.mem_append.mp hx with hx | hx
      · exact hb x hx
      · exact hc x hx
theorem dt_w_mk {e : ct_D} {a b c : ct_T} (hk : 1 ≤ e.1.toInt ∧ e.1.toInt ≤ 14) (la : a = .leaf ↔ ct_ar e.1 < 1) (lb : b = .leaf ↔ ct_ar e.1 < 2) (lc : c = .leaf ↔ ct_ar e.1 < 3) (hn : ct_nw e) (hu : ct_nu e) (ha : dt_w a) (hb : dt_w b) (hc : dt_w c) : dt_w (ct_nd e a b c) :=
  ⟨⟨rfl, rfl, rfl, hk, la, lb, lc, ha.1, hb.1, hc.1⟩, dt_fl_mk hn ha.2.1 hb.2.1 hc.2.1, dt_fl_mk hu ha.2.2 hb.2.2 hc.2.2⟩
/-- other parts in the same node -/
theorem dt_w_re {e : ct_D} {a b c a2 b2 c2 : ct_T} (h : dt_w (ct_nd e a b c)) (ha : dt_w a2) (hb : dt_w b2) (hc : dt_w c2) (la : a2 = .leaf ↔ a = .leaf) (lb : b2 = .leaf ↔ b = .leaf) (lc : c2 = .leaf ↔ c = .leaf) : dt_w (ct_nd e a2 b2 c2) := by
  obtain ⟨w1, w2, w3, w4, w5, w6, w7⟩ := ct_wf_nd h.1
  exact dt_w_mk w1 (la.trans w2) (lb.trans w3) (lc.trans w4) (dt_w_nd h).1 (dt_w_nd h).2.1 ha hb hc
/-- what is bound within the parts -/
def dt_G1 (e : ct_D) (G : ct_G) : ct_G := if e.1 = 4 ∨ e.1 = 7 then ct_ga G e.2.2.1 else G
def dt_G2 (e : ct_D) (G : ct_G) : ct_G := if e.1 = 4 ∨ e.1 = 7 then ct_ga G e.2.2.1 else if e.1 = 6 ∨ e.1 = 8 then ct_ga G e.2.2.1 else G
def dt_G3 (e : ct_D) (G : ct_G) : ct_G := if e.1 = 4 ∨ e.1 = 7 then ct_ga G e.2.2.1 else if e.1 = 6 ∨ e.1 = 8 then ct_ga G e.2.2.1 else if e.1 = 12 then ct_ga (ct_ga G e.2.2.1) e.2.2.2 else G
theorem dt_lx {e : ct_D} {a b c : ct_T} {G : ct_G} (h2 : ¬ e.1 = 2) : ct_lx G (ct_nd e a b c) ↔ ct_lx (dt_G1 e G) a ∧ ct_lx (dt_G2 e G) b ∧ ct_lx (dt_G3 e G) c := by
  rw [ct_lx_nd, if_neg h2]
  unfold dt_G1 dt_G2 dt_G3
  by_cases h4 : e.1 = 4 ∨ e.1 = 7
  · rw [if_pos h4, if_pos h4, if_pos h4, if_pos h4]
  · rw [if_neg h4, if_neg h4, if_neg h4, if_neg h4]
    by_cases h6 : e.1 = 6 ∨ e.1 = 8
    · rw [if_pos h6, if_pos h6, if_pos h6]
    · rw [if_neg h6, if_neg h6, if_neg h6]
      by_cases h12 : e.1 = 12
      · rw [if_pos h12, if_pos h12]
      · rw [if_neg h12, if_neg h12]
theorem dt_Gm {e : ct_D} {G H : ct_G} {x : Int32} (h : ∀ y, G y → H y ∨ y = x) : (∀ y, dt_G1 e G y → dt_G1 e H y ∨ y = x) ∧ (∀ y, dt_G2 e G y → dt_G2 e H y ∨ y = x) ∧ (∀ y, dt_G3 e G y → dt_G3 e H y ∨ y = x) := by
  have g : ∀ {G H : ct_G} {v : Int32}, (∀ y, G y → H y ∨ y = x) → ∀ y, ct_ga G v y → ct_ga H v y ∨ y = x := fun h y hy => by
    rcases hy with hy | hy
    · rcases h y hy with h | h
      · exact Or.inl (Or.inl h)
      · exact Or.inr h
    · exact Or.inl (Or.inr hy)
  unfold dt_G1 dt_G2 dt_G3
  by_cases h4 : e.1 = 4 ∨ e.1 = 7
  · simp only [if_pos h4]
    exact ⟨g h, g h, g h⟩
  · simp only [if_neg h4]
    by_cases h6 : e.1 = 6 ∨ e.1 = 8
    · simp only [if_pos h6]
      exact ⟨h, g h, g h⟩
    · simp only [if_neg h6]
      by_cases h12 : e.1 = 12
      · simp only [if_pos h12]
        exact ⟨h, h, g (g h)⟩
      · simp only [if_neg h12]
        exact ⟨h, h, h⟩
theorem dt_Gs {e : ct_D} {G : ct_G} {y : Int32} (h : G y) : dt_G1 e G y ∧ dt_G2 e G y ∧ dt_G3 e G y := by
  unfold dt_G1 dt_G2 dt_G3
  refine ⟨?_, ?_, ?_⟩
  · split
    · exact Or.inl h
    · exact h
  · split
    · exact Or.inl h
    · split
      · exact Or.inl h
      · exact h
  · split
    · exact Or.inl h
    · split
      · exact Or.inl h
      · split
        · exact Or.inl (Or.inl h)
        · exact h
/-- what is not in a part's surroundings is a name that the node binds -/
theorem dt_Go {e : ct_D} (hn : ct_nw e) {G : ct_G} {y : Int32} : (dt_G1 e G y → G y ∨ 0 < dt_oc y e) ∧ (dt_G2 e G y → G y ∨ 0 < dt_oc y e) ∧ (dt_G3 e G y → G y ∨ 0 < dt_oc y e) := by
  have hv : (e.1 = 4 ∨ e.1 = 6 ∨ e.1 = 7 ∨ e.1 = 8 ∨ e.1 = 12) → y = e.2.2.1 → 0 < dt_oc y e := fun h hy => by
    rw [hy]; exact List.count_pos_iff.mpr (ct_ob_v h)
  have hw : e.1 = 12 → y = e.2.2.2 → 0 < dt_oc y e := fun h hy => by
    rw [hy]; exact List.count_pos_iff.mpr (ct_ob_w h)
  unfold dt_G1 dt_G2 dt_G3
  have g : ∀ {v : Int32}, (y = v → 0 < dt_oc y e) → ct_ga G v y → G y ∨ 0 < dt_oc y e := fun h hy => by
    rcases hy with hy | hy
    · exact Or.inl hy
    · exact Or.inr (h hy)
  have i4 : (e.1 = 4 ∨ e.1 = 7) → y = e.2.2.1 → 0 < dt_oc y e := fun h => hv (by rcases h with h | h; exact Or.inl h; exact Or.inr (Or.inr (Or.inl h)))
  have i6 : (e.1 = 6 ∨ e.1 = 8) → y = e.2.2.1 → 0 < dt_oc y e := fun h => hv (by rcases h with h | h; exact Or.inr (Or.inl h); exact Or.inr (Or.inr (Or.inr (Or.inl h))))
  by_cases h4 : e.1 = 4 ∨ e.1 = 7
  · simp only [if_pos h4]
    exact ⟨g (i4 h4), g (i4 h4), g (i4 h4)⟩
  · simp only [if_neg h4]
    by_cases h6 : e.1 = 6 ∨ e.1 = 8
    · simp only [if_pos h6]
      exact ⟨Or.inl, g (i6 h6), g (i6 h6)⟩
    · simp only [if_neg h6]
      by_cases h12 : e.1 = 12
      · simp only [if_pos h12]
        refine ⟨Or.inl, Or.inl, fun hy => ?_⟩
        rcases hy with (hy | hy) | hy
        · exact Or.inl hy
        · exact Or.inr (hv (Or.inr (Or.inr (Or.inr (Or.inr h12)))) hy)
        · exact Or.inr (hw h12 hy)
      · simp only [if_neg h12]
        exact ⟨Or.inl, Or.inl, Or.inl⟩
/-- a variable that does not occur need not be bound around -/
theorem dt_lx_st {x : Int32} : ∀ t, ct_wf t → ∀ G H : ct_G, (∀ y, G y → H y ∨ y = x) → ct_cn x (ct_fl t) = 0 → ct_lx G t → ct_lx H t :=
  ct_ind (fun G H _ _ h => h) (fun e a b c hw iha ihb ihc G H h hc hl => by
    rw [ct_cn_nd] at hc
    by_cases h2 : e.1 = 2
    · rw [ct_lx_nd, if_pos h2] at hl ⊢
      rcases h _ hl with h3 | h3
      · exact h3
      · rw [if_pos ⟨h2, h3⟩] at hc; omega
    · rw [dt_lx h2] at hl ⊢
      obtain ⟨g1, g2, g3⟩ := dt_Gm (e := e) h
      exact ⟨iha _ _ g1 (by omega) hl.1, ihb _ _ g2 (by omega) hl.2.1, ihc _ _ g3 (by omega) hl.2.2⟩)
/-- bounds of names: what is bound, what is bound around -/
def dt_bd (n : Nat) (t : ct_T) : Prop := (∀ z, dt_ct z t ≤ 1) ∧ ∀ z, 0 < dt_ct z t → 0 ≤ z.toInt ∧ z.toInt < (n : Int)
def dt_gc (n : Nat) (G : ct_G) (t : ct_T) : Prop := ∀ x, G x → dt_ct x t = 0 ∧ 0 ≤ x.toInt ∧ x.toInt < (n : Int)
/-- names of a tree are bound in it or around, or there is none -/
theorem dt_nm {t : ct_T} (hw : dt_w t) {G : ct_G} (hl : ct_lx G t) : ∀ e, e ∈ ct_fl t → (e.2.2.1 = -1 ∨ G e.2.2.1 ∨ e.2.2.1 ∈ dt_B t) ∧ (e.2.2.2 = -1 ∨ e.2.2.2 ∈ dt_B t) := by
  intro e he
  obtain ⟨q1, q2, q3⟩ := hw.2.1 e he
  by_cases h2 : e.1 = 2
  · refine ⟨?_, Or.inl (q1 (Or.inl h2)).2⟩
    obtain ⟨i, hi⟩ := List.getElem?_of_mem he
    rcases ct_lx_oc t hw.1 G hl i e hi h2 with h | h
    · exact Or.inr (Or.inl h)
    · exact Or.inr (Or.inr (ct_bl_take h))
  · by_cases h12 : e.1 = 12
    · exact ⟨Or.inr (Or.inr (ct_bl_in (l := []) he (ct_ob_v (Or.inr (Or.inr (Or.inr (Or.inr h12))))))), Or.inr (ct_bl_in (l := []) he (ct_ob_w h12))⟩
    · by_cases h4 : e.1 = 4 ∨ e.1 = 6 ∨ e.1 = 7 ∨ e.1 = 8
      · refine ⟨Or.inr (Or.inr (ct_bl_in (l := []) he (ct_ob_v ?_))), Or.inl (q1 (Or.inr h4)).2⟩
        rcases h4 with h | h | h | h
        · exact Or.inl h
        · exact Or.inr (Or.inl h)
        · exact Or.inr (Or.inr (Or.inl h))
        · exact Or.inr (Or.inr (Or.inr (Or.inl h)))
      · have := q3 (fun hc => by
          rcases hc with h | h | h | h | h | h
          · exact h2 h
          · exact h4 (Or.inl h)
          · exact h4 (Or.inr (Or.inl h))
          · exact h4 (Or.inr (Or.inr (Or.inl h)))
          · exact h4 (Or.inr (Or.inr (Or.inr h)))
          · exact h12 h)
        exact ⟨Or.inl this.1, Or.inl this.2⟩
theorem ct_ob_map {f : Int32 → Int32} {e : ct_D} : ct_ob (ct_rd f e) = (ct_ob e).map f := by
  unfold ct_ob ct_rd
  dsimp only
  split
  · rfl
  · split
    · rfl
    · rfl
theorem ct_bl_map {f : Int32 → Int32} : ∀ l : List ct_D, ct_bl (l.map (ct_rd f)) = (ct_bl l).map f
  | [] => rfl
  | e :: l => by
    rw [List.map_cons]
    show ct_ob (ct_rd f e) ++ ct_bl (l.map (ct_rd f)) = (ct_ob e ++ ct_bl l).map f
    rw [ct_ob_map, ct_bl_map l, List.map_append]
theorem dt_fr_in {n : Nat} {B : List Int32} {x : Int32} (h : x ∈ B) : ct_fr n B x = Int32.ofNat (n + ct_ix x B) := by
  unfold ct_fr
  rw [if_pos h]
theorem dt_fr_no {n : Nat} {B : List Int32} {x : Int32} (h : ¬ x ∈ B) : ct_fr n B x = x := by
  unfold ct_fr
  rw [if_neg h]
theorem dt_B_m1 {t : ct_T} (hn : ct_nws t) : ¬ (-1 : Int32) ∈ dt_B t := fun h => ct_bl_nm hn _ h rfl
/-- renaming of what is bound: one to one -/
theorem dt_cp_er {t : ct_T} (hw : dt_w t) {G : ct_G} {n : Nat} (hb : dt_bd n t) (hg : dt_gc n G t) (hl : ct_lx G t) (hn : n + dt_nb t < 2147483648) : ct_bi (fun x y => y = ct_fr n (dt_B t) x ∧ (x = -1 ∨ G x ∨ x ∈ dt_B t)) ∧ ct_er (fun x y => y = ct_fr n (dt_B t) x ∧ (x = -1 ∨ G x ∨ x ∈ dt_B t)) t (dt_cp n t) := by
  have hm1 := dt_B_m1 hw.2.1
  have hf1 : ct_fr n (dt_B t) (-1) = -1 := dt_fr_no hm1
  have hin : ∀ x, x ∈ dt_B t → ct_fr n (dt_B t) x = Int32.ofNat (n + ct_ix x (dt_B t)) ∧ n + ct_ix x (dt_B t) < 2147483648 := fun x hx => by
    have := ct_ix_lt hx
    unfold dt_nb at hn
    exact ⟨dt_fr_in hx, by omega⟩
  have out : ∀ x, x = -1 ∨ G x ∨ x ∈ dt_B t → ¬ x ∈ dt_B t → x.toInt < (n : Int) := fun x hx hxn => by
    rcases hx with rfl | hx | hx
    · show (-1 : Int) < _
      omega
    · exact (hg x hx).2.2
    · exact absurd hx hxn
  refine ⟨⟨fun x y z hy hz => by rw [hy.1, hz.1], fun x y z hx hy => ?_⟩, ?_⟩
  · have h1 : ct_fr n (dt_B t) x = ct_fr n (dt_B t) y := hx.1.symm.trans hy.1
    by_cases hxb : x ∈ dt_B t
    · obtain ⟨a1, a2⟩ := hin x hxb
      by_cases hyb : y ∈ dt_B t
      · obtain ⟨b1, b2⟩ := hin y hyb
        rw [a1, b1, cp_inj a2 b2] at h1
        exact ct_ix_inj hxb hyb (by omega)
      · rw [a1, dt_fr_no hyb] at h1
        have := out y hy.2 hyb
        rw [← h1, cp_tI a2] at this
        omega
    · by_cases hyb : y ∈ dt_B t
      · obtain ⟨b1, b2⟩ := hin y hyb
        rw [b1, dt_fr_no hxb] at h1
        have := out x hx.2 hxb
        rw [h1, cp_tI b2] at this
        omega
      · rw [dt_fr_no hxb, dt_fr_no hyb] at h1
        exact h1
  · have hN := dt_nm hw hl
    have h0 := ct_er_self (f := ct_fr n (dt_B t)) hf1 t hw.1 (fun e he => by
      have g : ∀ x, (¬ x = -1 → ¬ ct_fr n (dt_B t) x = -1) := fun x hne => by
        by_cases hx : x ∈ dt_B t
        · obtain ⟨a1, a2⟩ := hin x hx
          rw [a1]; exact cp_m1 a2
        · rw [dt_fr_no hx]; exact hne
      exact ⟨g _, g _⟩)
    refine ct_er_rs (N := fun x => x = -1 ∨ G x ∨ x ∈ dt_B t) t hw.1 _ (ct_map_wf t hw.1) (fun e he => ⟨(hN e he).1, ?_⟩) h0
    rcases (hN e he).2 with h | h
    · exact Or.inl h
    · exact Or.inr (Or.inr h)
theorem dt_cp_w {t : ct_T} (hw : dt_w t) {G : ct_G} {n : Nat} (hb : dt_bd n t) (hg : dt_gc n G t) (hl : ct_lx G t) (hn : n + dt_nb t < 2147483648) : dt_w (dt_cp n t) ∧ ct_lx G (dt_cp n t) ∧ (dt_cp n t = .leaf ↔ t = .leaf) ∧ ct_sz (dt_cp n t) = ct_sz t ∧ dt_nb (dt_cp n t) = dt_nb t := by
  obtain ⟨h1, h2⟩ := dt_cp_er hw hb hg hl hn
  have w2 : ct_wf (dt_cp n t) := ct_map_wf t hw.1
  refine ⟨⟨w2, ct_er_nws hw.1 w2 (fun x y z w g1 g2 g3 => h1.2 _ _ _ g1 (g3 ▸ g2)) h2 hw.2.1, ct_er_nus hw.1 w2 h2 hw.2.2⟩, ?_, ct_map_lf hw.1, ct_map_sz t, ?_⟩
  · refine ct_lx_mono _ w2 _ _ (fun y hy => ?_) (ct_lx_er h1 t hw.1 _ w2 G hw.2.1 h2 hl)
    obtain ⟨x, hx, hxy, _⟩ := hy
    have hxb : ¬ x ∈ dt_B t := fun hc => by
      have := (hg x hx).1
      rw [dt_ct_in] at hc; omega
    rw [hxy, dt_fr_no hxb]
    exact hx
  · unfold dt_nb dt_B dt_cp
    rw [ct_map_fl, ct_bl_map, List.length_map]
theorem dt_ndm {f : Int32 → Int32} : ∀ l : List Int32, l.Nodup → (∀ x, x ∈ l → ∀ y, y ∈ l → f x = f y → x = y) → (l.map f).Nodup
  | [], _, _ => List.nodup_nil
  | a :: l, h, hf => by
    rw [List.nodup_cons] at h
    rw [List.map_cons, List.nodup_cons]
    refine ⟨fun hc => ?_, dt_ndm l h.2 (fun x hx y hy => hf x (List.mem_cons_of_mem _ hx) y (List.mem_cons_of_mem _ hy))⟩
    obtain ⟨y, hy, hfy⟩ := List.mem_map.mp hc
    have := hf y (List.mem_cons_of_mem _ hy) a List.mem_cons_self hfy
    rw [this] at hy
    exact h.1 hy
/-- what a copy binds -/
theorem dt_cp_ct {t : ct_T} {n : Nat} (hb : ∀ z, dt_ct z t ≤ 1) (hn : n + dt_nb t < 2147483648) : ∀ z, dt_ct z (dt_cp n t) ≤ 1 ∧ (0 < dt_ct z (dt_cp n t) → (n : Int) ≤ z.toInt ∧ z.toInt < ((n + dt_nb t : Nat) : Int)) := by
  have hnd : (dt_B t).Nodup := dt_nodup.mpr hb
  have e : dt_B (dt_cp n t) = (dt_B t).map (ct_fr n (dt_B t)) := by
    unfold dt_B dt_cp
    rw [ct_map_fl, ct_bl_map]
    rfl
  unfold dt_nb at hn ⊢
  have hnd2 : (dt_B (dt_cp n t)).Nodup := by
    rw [e]
    refine dt_ndm _ hnd ?_
    intro x hx y hy hxy
    have := ct_ix_lt hx
    have := ct_ix_lt hy
    rw [dt_fr_in hx, dt_fr_in hy, cp_inj (by omega) (by omega)] at hxy
    exact ct_ix_inj hx hy (by omega)
  intro z
  refine ⟨dt_nodup.mp hnd2 z, fun hz => ?_⟩
  rw [← dt_ct_in, e, List.mem_map] at hz
  obtain ⟨x, hx, rfl⟩ := hz
  have := ct_ix_lt hx
  rw [dt_fr_in hx, cp_tI (by omega)]
  omega
