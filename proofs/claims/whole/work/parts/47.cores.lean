/-! ## 47 scopes; cores; canonical forms are cores -/
abbrev ct_G : Type := Int32 → Prop
def ct_ga (G : ct_G) (x : Int32) : ct_G := fun y => G y ∨ y = x
/-- every variable is bound where it stands, or in G -/
def ct_lx : ct_G → ct_T → Prop
  | G, .inner _ e _ a (.inner _ _ _ b c) => if e.1 = 2 then G e.2.2.1 else if e.1 = 4 ∨ e.1 = 7 then ct_lx (ct_ga G e.2.2.1) a ∧ ct_lx (ct_ga G e.2.2.1) b ∧ ct_lx (ct_ga G e.2.2.1) c else if e.1 = 6 ∨ e.1 = 8 then ct_lx G a ∧ ct_lx (ct_ga G e.2.2.1) b ∧ ct_lx (ct_ga G e.2.2.1) c else if e.1 = 12 then ct_lx G a ∧ ct_lx G b ∧ ct_lx (ct_ga (ct_ga G e.2.2.1) e.2.2.2) c else ct_lx G a ∧ ct_lx G b ∧ ct_lx G c
  | _, _ => True
theorem ct_lx_nd {G : ct_G} {e : ct_D} {a b c : ct_T} : ct_lx G (ct_nd e a b c) = if e.1 = 2 then G e.2.2.1 else if e.1 = 4 ∨ e.1 = 7 then ct_lx (ct_ga G e.2.2.1) a ∧ ct_lx (ct_ga G e.2.2.1) b ∧ ct_lx (ct_ga G e.2.2.1) c else if e.1 = 6 ∨ e.1 = 8 then ct_lx G a ∧ ct_lx (ct_ga G e.2.2.1) b ∧ ct_lx (ct_ga G e.2.2.1) c else if e.1 = 12 then ct_lx G a ∧ ct_lx G b ∧ ct_lx (ct_ga (ct_ga G e.2.2.1) e.2.2.2) c else ct_lx G a ∧ ct_lx G b ∧ ct_lx G c := rfl
theorem ct_ga_mono {G H : ct_G} {x : Int32} (h : ∀ y, G y → H y) : ∀ y, ct_ga G x y → ct_ga H x y := fun y hy => by
  rcases hy with hy | hy
  · exact Or.inl (h y hy)
  · exact Or.inr hy
theorem ct_lx_mono : ∀ t, ct_wf t → ∀ G H : ct_G, (∀ y, G y → H y) → ct_lx G t → ct_lx H t :=
  ct_ind (fun _ _ _ _ => trivial) (fun e a b c hw iha ihb ihc G H h hl => by
    rw [ct_lx_nd] at hl ⊢
    have h1 := ct_ga_mono (x := e.2.2.1) h
    have h2 := ct_ga_mono (x := e.2.2.2) h1
    split at hl
    · next q => rw [if_pos q]; exact h _ hl
    · next q =>
      rw [if_neg q]
      split at hl
      · next q => rw [if_pos q]; exact ⟨iha _ _ h1 hl.1, ihb _ _ h1 hl.2.1, ihc _ _ h1 hl.2.2⟩
      · next q =>
        rw [if_neg q]
        split at hl
        · next q => rw [if_pos q]; exact ⟨iha _ _ h hl.1, ihb _ _ h1 hl.2.1, ihc _ _ h1 hl.2.2⟩
        · next q =>
          rw [if_neg q]
          split at hl
          · next q => rw [if_pos q]; exact ⟨iha _ _ h hl.1, ihb _ _ h hl.2.1, ihc _ _ h2 hl.2.2⟩
          · next q => rw [if_neg q]; exact ⟨iha _ _ h hl.1, ihb _ _ h hl.2.1, ihc _ _ h hl.2.2⟩)
theorem ct_lx_er {R : ct_R} (hb : ct_bi R) : ∀ t, ct_wf t → ∀ t2, ct_wf t2 → ∀ G, ct_nws t → ct_er R t t2 → ct_lx G t → ct_lx (fun y => ∃ x, G x ∧ R x y) t2 :=
  ct_ind (fun t2 w G _ h _ => by rw [ct_er_lf w h]; trivial) (fun e a b c hw iha ihb ihc t2 w G hn h hl => by
    obtain ⟨f, x, y, z, rfl, h1, h2, h3, h4⟩ := ct_er_el w h
    obtain ⟨_, _, _, _, w5, w6, w7⟩ := ct_wf_nd w
    obtain ⟨⟨n1, n2, n3⟩, na, nb, nc⟩ := ct_nws_nd hn
    have get : ∀ {x y}, ct_rn R x y → ¬ x = -1 → R x y := fun h hx => by
      rcases h with h | h
      · exact absurd h.1 hx
      · exact h.2.2
    have m1 : ∀ {G : ct_G} {v u : Int32}, R v u → ∀ y, (∃ x, ct_ga G v x ∧ R x y) → ct_ga (fun y => ∃ x, G x ∧ R x y) u y := fun {G v u} hv y hy => by
      obtain ⟨x, hx, hr⟩ := hy
      rcases hx with hx | hx
      · exact Or.inl ⟨x, hx, hr⟩
      · subst hx; exact Or.inr (hb.1 _ _ _ hr hv)
    rw [ct_lx_nd] at hl ⊢
    rw [← h1.1]
    split at hl
    · next q =>
      rw [if_pos q]
      exact ⟨_, hl, get h1.2.2.1 (n1 (Or.inl q)).1⟩
    · next q =>
      rw [if_neg q]
      split at hl
      · next q =>
        rw [if_pos q]
        have hv := get h1.2.2.1 (n1 (by rcases q with q | q; exact Or.inr (Or.inl q); exact Or.inr (Or.inr (Or.inr (Or.inl q))))).1
        exact ⟨ct_lx_mono _ w5 _ _ (m1 hv) (iha _ w5 _ na h2 hl.1), ct_lx_mono _ w6 _ _ (m1 hv) (ihb _ w6 _ nb h3 hl.2.1), ct_lx_mono _ w7 _ _ (m1 hv) (ihc _ w7 _ nc h4 hl.2.2)⟩
      · next q =>
        rw [if_neg q]
        split at hl
        · next q =>
          rw [if_pos q]
          have hv := get h1.2.2.1 (n1 (by rcases q with q | q; exact Or.inr (Or.inr (Or.inl q)); exact Or.inr (Or.inr (Or.inr (Or.inr q))))).1
          exact ⟨iha _ w5 _ na h2 hl.1, ct_lx_mono _ w6 _ _ (m1 hv) (ihb _ w6 _ nb h3 hl.2.1), ct_lx_mono _ w7 _ _ (m1 hv) (ihc _ w7 _ nc h4 hl.2.2)⟩
        · next q =>
          rw [if_neg q]
          split at hl
          · next q =>
            rw [if_pos q]
            have hv := get h1.2.2.1 (n2 q).1
            have hu := get h1.2.2.2 (n2 q).2.1
            exact ⟨iha _ w5 _ na h2 hl.1, ihb _ w6 _ nb h3 hl.2.1, ct_lx_mono _ w7 _ _ (fun y hy => ct_ga_mono (m1 hv) y (m1 hu y hy)) (ihc _ w7 _ nc h4 hl.2.2)⟩
          · next q => rw [if_neg q]; exact ⟨iha _ w5 _ na h2 hl.1, ihb _ w6 _ nb h3 hl.2.1, ihc _ w7 _ nc h4 hl.2.2⟩)
theorem ct_lx_oc : ∀ t, ct_wf t → ∀ G, ct_lx G t → ∀ (i : Nat) (e : ct_D), (ct_fl t)[i]? = some e → e.1 = 2 → G e.2.2.1 ∨ e.2.2.1 ∈ ct_bl ((ct_fl t).take i) :=
  ct_ind (fun G _ i e h _ => by simp [ct_fl] at h) (fun e a b c hw iha ihb ihc G hl i e2 hi h2 => by
    rw [ct_fl_nd] at hi ⊢
    rw [ct_lx_nd] at hl
    have ga : ∀ {H : ct_G} {v : Int32} {Q : List Int32}, (v ∈ ct_ob e) → (ct_ga H v e2.2.2.1 ∨ e2.2.2.1 ∈ Q) → (H e2.2.2.1 ∨ e2.2.2.1 ∈ ct_ob e ++ Q) := fun hv h => by
      rcases h with (h | h) | h
      · exact Or.inl h
      · exact Or.inr (List.mem_append_left _ (h ▸ hv))
      · exact Or.inr (List.mem_append_right _ h)
    have g0 : ∀ {H : ct_G} {Q : List Int32}, (H e2.2.2.1 ∨ e2.2.2.1 ∈ Q) → (H e2.2.2.1 ∨ e2.2.2.1 ∈ ct_ob e ++ Q) := fun h => by
      rcases h with h | h
      · exact Or.inl h
      · exact Or.inr (List.mem_append_right _ h)
    rcases i with _ | i
    · rw [List.getElem?_cons_zero] at hi
      cases hi
      rw [if_pos h2] at hl
      exact Or.inl hl
    · rw [List.getElem?_cons_succ] at hi
      have hne : ¬ e.1 = 2 := fun hc => by
        obtain ⟨l1, l2, l3⟩ := ct_leafs hw hc
        subst l1; subst l2; subst l3
        simp [ct_fl] at hi
      rw [if_neg hne] at hl
      show G e2.2.2.1 ∨ e2.2.2.1 ∈ ct_ob e ++ ct_bl ((ct_fl a ++ (ct_fl b ++ ct_fl c)).take i)
      have pa : ∀ H : ct_G, ct_lx H a → i < ct_sz a → (H e2.2.2.1 ∨ e2.2.2.1 ∈ ct_bl ((ct_fl a ++ (ct_fl b ++ ct_fl c)).take i)) := fun H h hlt => by
        rw [List.getElem?_append, if_pos (by rw [ct_fl_len]; exact hlt)] at hi
        rw [List.take_append_of_le_length (by rw [ct_fl_len]; omega)]
        exact iha H h i e2 hi h2
      have pb : ∀ H : ct_G, ct_lx H b → ¬ i < ct_sz a → i - ct_sz a < ct_sz b → (H e2.2.2.1 ∨ e2.2.2.1 ∈ ct_bl ((ct_fl a ++ (ct_fl b ++ ct_fl c)).take i)) := fun H h hge hlt => by
        rw [List.getElem?_append, if_neg (by rw [ct_fl_len]; exact hge), ct_fl_len, List.getElem?_append, if_pos (by rw [ct_fl_len]; exact hlt)] at hi
        rw [List.take_append, ct_fl_len, List.take_append_of_le_length (by rw [ct_fl_len]; omega), ct_bl_app]
        rcases ihb H h _ e2 hi h2 with h | h
        · exact Or.inl h
        · exact Or.inr (List.mem_append_right _ h)
      have pc : ∀ H : ct_G, ct_lx H c → ¬ i < ct_sz a → ¬ i - ct_sz a < ct_sz b → (H e2.2.2.1 ∨ e2.2.2.1 ∈ ct_bl ((ct_fl a ++ (ct_fl b ++ ct_fl c)).take i)) := fun H h hge hge2 => by
        rw [List.getElem?_append, if_neg (by rw [ct_fl_len]; exact hge), ct_fl_len, List.getElem?_append, if_neg (by rw [ct_fl_len]; exact hge2), ct_fl_len] at hi
        rw [List.take_append, ct_fl_len, List.take_append, ct_fl_len, ct_bl_app, ct_bl_app]
        rcases ihc H h _ e2 hi h2 with h | h
        · exact Or.inl h
        · exact Or.inr (List.mem_append_right _ (List.mem_append_right _ h))
      by_cases q1 : e.1 = 4 ∨ e.1 = 7
      · rw [if_pos q1] at hl
        have hv : e.2.2.1 ∈ ct_ob e := ct_ob_v (by rcases q1 with q | q; exact Or.inl q; exact Or.inr (Or.inr (Or.inl q)))
        by_cases s1 : i < ct_sz a
        · exact ga hv (pa _ hl.1 s1)
        · by_cases s2 : i - ct_sz a < ct_sz b
          · exact ga hv (pb _ hl.2.1 s1 s2)
          · exact ga hv (pc _ hl.2.2 s1 s2)
      · rw [if_neg q1] at hl
        by_cases q2 : e.1 = 6 ∨ e.1 = 8
        · rw [if_pos q2] at hl
          have hv : e.2.2.1 ∈ ct_ob e := ct_ob_v (by rcases q2 with q | q; exact Or.inr (Or.inl q); exact Or.inr (Or.inr (Or.inr (Or.inl q))))
          by_cases s1 : i < ct_sz a
          · exact g0 (pa _ hl.1 s1)
          · by_cases s2 : i - ct_sz a < ct_sz b
            · exact ga hv (pb _ hl.2.1 s1 s2)
            · exact ga hv (pc _ hl.2.2 s1 s2)
        · rw [if_neg q2] at hl
          by_cases q3 : e.1 = 12
          · rw [if_pos q3] at hl
            by_cases s1 : i < ct_sz a
            · exact g0 (pa _ hl.1 s1)
            · by_cases s2 : i - ct_sz a < ct_sz b
              · exact g0 (pb _ hl.2.1 s1 s2)
              · have h := pc _ hl.2.2 s1 s2
                rcases h with (h | h) | h
                · exact ga (ct_ob_v (Or.inr (Or.inr (Or.inr (Or.inr q3))))) (Or.inl h)
                · exact Or.inr (List.mem_append_left _ (h ▸ ct_ob_w q3))
                · exact Or.inr (List.mem_append_right _ h)
          · rw [if_neg q3] at hl
            by_cases s1 : i < ct_sz a
            · exact g0 (pa _ hl.1 s1)
            · by_cases s2 : i - ct_sz a < ct_sz b
              · exact g0 (pb _ hl.2.1 s1 s2)
              · exact g0 (pc _ hl.2.2 s1 s2))
theorem ct_bl_take {l : List ct_D} {i : Nat} {x : Int32} (h : x ∈ ct_bl (l.take i)) : x ∈ ct_bl l := by
  have h2 : ct_bl l = ct_bl (l.take i) ++ ct_bl (l.drop i) := by rw [← ct_bl_app, List.take_append_drop]
  rw [h2]; exact List.mem_append_left _ h
/-- in a scope that shares no name with what is bound within, a tree can be copied -/
theorem ct_lx_pb {t : ct_T} (hw : ct_wf t) {G : ct_G} (hl : ct_lx G t) (hG : ∀ x, G x → ¬ x ∈ ct_bl (ct_fl t)) : ct_pb (ct_bl (ct_fl t)) [] (ct_fl t) := by
  intro i e hi h2 hb
  rcases ct_lx_oc t hw G hl i e hi h2 with h | h
  · exact absurd hb (hG _ h)
  · rw [List.nil_append]; exact h
theorem ct_lx_cl {t : ct_T} (hw : ct_wf t) (hl : ct_lx (fun _ => False) t) : ct_cl t := by
  intro e he h2
  obtain ⟨i, hi⟩ := List.getElem?_of_mem he
  rcases ct_lx_oc t hw _ hl i e hi h2 with h | h
  · exact h.elim
  · exact ct_bl_take h
/-- a number that a node of its kind can have -/
def ct_nu (e : ct_D) : Prop := (e.1 = 3 → 0 ≤ e.2.1.toInt ∧ e.2.1.toInt < 8) ∧ (e.1 = 9 → 0 ≤ e.2.1.toInt ∧ e.2.1.toInt < 5) ∧ (e.1 = 14 → 0 ≤ e.2.1.toInt ∧ e.2.1.toInt < 6) ∧ (¬ (e.1 = 1 ∨ e.1 = 3 ∨ e.1 = 9 ∨ e.1 = 14) → e.2.1 = 0)
def ct_nus (t : ct_T) : Prop := ∀ e, e ∈ ct_fl t → ct_nu e
/-- a core -/
def ct_co (t : ct_T) : Prop := ct_wf t ∧ ¬ t = .leaf ∧ ct_nws t ∧ ct_nb t ∧ (ct_bl (ct_fl t)).Nodup ∧ ct_lx (fun _ => False) t ∧ ct_nus t ∧ ct_sz t ≤ 150
theorem ct_co_gd {t : ct_T} (h : ct_co t) : ct_gd t := by
  obtain ⟨h1, h2, h3, h4, h5, h6, h7, h8⟩ := h
  exact ⟨h1, h4, h3, h5, ct_lx_pb h1 h6 (fun x hx => hx.elim)⟩
theorem ct_co_cl {t : ct_T} (h : ct_co t) : ct_cl t := ct_lx_cl h.1 h.2.2.2.2.2.1
theorem ct_co_bo {t : ct_T} (h : ct_co t) : (ct_bo t).Nodup := (ct_bo_perm t h.1).nodup_iff.mpr h.2.2.2.2.1
/-- fewer variables than nodes -/
theorem ct_bl_sz : ∀ t, ct_wf t → (ct_bl (ct_fl t)).length ≤ ct_sz t - 1 :=
  ct_ind (Nat.le_refl _) (fun e a b c hw iha ihb ihc => by
    obtain ⟨w1, w2, w3, w4, w5, w6, w7⟩ := ct_wf_nd hw
    have hb : (ct_bl (ct_fl (ct_nd e a b c))).length = (ct_ob e).length + ((ct_bl (ct_fl a)).length + ((ct_bl (ct_fl b)).length + (ct_bl (ct_fl c)).length)) := by
      rw [ct_fl_nd]
      show (ct_ob e ++ ct_bl (ct_fl a ++ (ct_fl b ++ ct_fl c))).length = _
      rw [ct_bl_app, ct_bl_app]
      simp only [List.length_append]
    rw [hb, ct_sz_nd]
    unfold ct_ob
    split
    · next q =>
      have h3 := ct_ar_3 q
      have s1 := ct_sz_ne w5 (fun hc => by rw [w2, h3] at hc; omega)
      have s2 := ct_sz_ne w6 (fun hc => by rw [w3, h3] at hc; omega)
      have s3 := ct_sz_ne w7 (fun hc => by rw [w4, h3] at hc; omega)
      simp only [List.length_cons, List.length_nil]
      omega
    · split
      · next q =>
        have h1 : ¬ ct_ar e.1 < 1 := by rcases q with q | q | q | q <;> rw [q] <;> decide +kernel
        have s1 := ct_sz_ne w5 (fun hc => h1 (w2.mp hc))
        simp only [List.length_cons, List.length_nil]
        omega
      · simp only [List.length_nil]
        omega)
theorem ct_f2_fl {α β : Type} {R : α → β → Prop} : ∀ {l : List α} {m : List β}, ct_f2 R l m → ct_f2 (fun y x => R x y) m l
  | [], [], _ => trivial
  | [], _ :: _, h => h.elim
  | _ :: _, [], h => h.elim
  | a :: l, b :: m, h => ⟨h.1, ct_f2_fl h.2⟩
theorem ct_f2_nodup {R : ct_R} (hb : ct_bi R) : ∀ {l m : List Int32}, ct_f2 R l m → l.Nodup → m.Nodup
  | [], [], _, _ => List.nodup_nil
  | [], _ :: _, h, _ => h.elim
  | _ :: _, [], h, _ => h.elim
  | a :: l, b :: m, h, hn => by
    rw [List.nodup_cons] at hn ⊢
    exact ⟨fun hc => hn.1 ((ct_f2_ix hb h.1 h.2).2.mpr hc), ct_f2_nodup hb h.2 hn.2⟩
theorem ct_er_nus {R : ct_R} {t t2 : ct_T} (hw : ct_wf t) (hw2 : ct_wf t2) (h : ct_er R t t2) (hn : ct_nus t) : ct_nus t2 := by
  have gen : ∀ {l m : List ct_D}, ct_f2 (ct_ed R) l m → (∀ e, e ∈ l → ct_nu e) → ∀ e, e ∈ m → ct_nu e := by
    intro l
    induction l with
    | nil => intro m hm _ e he; cases m with
      | nil => cases he
      | cons => exact hm.elim
    | cons a l ih => intro m hm hn e he; cases m with
      | nil => cases he
      | cons b m =>
        rcases List.mem_cons.mp he with rfl | he
        · have q := hn a List.mem_cons_self
          unfold ct_nu at q ⊢
          rw [← hm.1.1, ← hm.1.2.1]
          exact q
        · exact ih hm.2 (fun x hx => hn x (List.mem_cons_of_mem _ hx)) e he
  exact gen (ct_er_fl t hw t2 hw2 h) hn
/-- trees alike but for names: both are cores -/
theorem ct_er_co {R : ct_R} (hb : ct_bi R) {t t2 : ct_T} (hw2 : ct_wf t2) (h : ct_er R t t2) (hc : ct_co t) (hnb : ct_nb t2) : ct_co t2 := by
  obtain ⟨h1, h2, h3, h4, h5, h6, h7, h8⟩ := hc
  have hs := ct_er_sz t h1 t2 hw2 h
  refine ⟨hw2, fun hc => h2 (hs.2.mpr hc), ct_er_nws h1 hw2 (fun x y z w g1 g2 g3 => hb.2 _ _ _ g1 (g3 ▸ g2)) h h3, hnb, ct_f2_nodup hb (ct_f2_bl (ct_er_fl t h1 t2 hw2 h) h3) h5, ?_, ct_er_nus h1 hw2 h h7, by omega⟩
  exact ct_lx_mono _ hw2 _ _ (fun y hy => by obtain ⟨x, hx, _⟩ := hy; exact hx.elim) (ct_lx_er hb t h1 t2 hw2 _ h3 h h6)
/-- a core with its variables numbered from n in the order of a list of them -/
theorem ct_fr_er {t : ct_T} (hc : ct_co t) {n : Nat} {B : List Int32} (hB : ∀ x, x ∈ B ↔ x ∈ ct_bl (ct_fl t)) (hn : n + B.length ≤ 32768) : ct_bi (fun x y => y = ct_fr n B x ∧ x ∈ B) ∧ ct_er (fun x y => y = ct_fr n B x ∧ x ∈ B) t (ct_map (ct_fr n B) t) ∧ ct_nb (ct_map (ct_fr n B) t) := by
  obtain ⟨h1, h2, h3, h4, h5, h6, h7, h8⟩ := id hc
  have hm1 : ¬ (-1 : Int32) ∈ B := fun h => ct_bl_nm h3 _ ((hB _).mp h) rfl
  have hf1 : ct_fr n B (-1) = -1 := by unfold ct_fr; rw [if_neg hm1]
  have hin : ∀ x, x ∈ B → ct_fr n B x = Int32.ofNat (n + ct_ix x B) ∧ n + ct_ix x B < 32768 := fun x hx => by
    have := ct_ix_lt hx
    unfold ct_fr
    rw [if_pos hx]
    exact ⟨rfl, by omega⟩
  have hcn := ct_cn0_of h3 (ct_co_cl hc)
  refine ⟨⟨fun x y z hy hz => by rw [hy.1, hz.1], fun x y z hx hy => ?_⟩, ?_, ?_⟩
  · obtain ⟨a1, a2⟩ := hin x hx.2
    obtain ⟨b1, b2⟩ := hin y hy.2
    have e : Int32.ofNat (n + ct_ix x B) = Int32.ofNat (n + ct_ix y B) := by rw [← a1, ← b1, ← hx.1, ← hy.1]
    rw [cp_inj (by omega) (by omega)] at e
    exact ct_ix_inj hx.2 hy.2 (by omega)
  · have h0 := ct_er_self (f := ct_fr n B) hf1 t h1 (fun e he => by
      have g : ∀ x, (x = -1 ∨ x ∈ ct_bl (ct_fl t)) → (¬ x = -1 → ¬ ct_fr n B x = -1) := fun x hx hne => by
        rcases hx with hx | hx
        · exact absurd hx hne
        · obtain ⟨a1, a2⟩ := hin x ((hB x).mpr hx)
          rw [a1]; exact cp_m1 (by omega)
      exact ⟨g _ (hcn e he).1, g _ (hcn e he).2⟩)
    have h9 := ct_er_rs (N := fun x => x = -1 ∨ x ∈ B) t h1 _ (ct_map_wf t h1) (fun e he => by
      obtain ⟨q1, q2⟩ := hcn e he
      rw [← hB] at q1 q2
      exact ⟨q1, q2⟩) h0
    have gen : ∀ t, ct_wf t → ∀ t2, ct_wf t2 → ct_er (fun x y => y = ct_fr n B x ∧ (x = -1 ∨ x ∈ B)) t t2 → ct_er (fun x y => y = ct_fr n B x ∧ x ∈ B) t t2 :=
      ct_ind (fun t2 w h => by rw [ct_er_lf w h]; trivial) (fun e a b c hw iha ihb ihc t2 w h => by
        obtain ⟨f, x, y, z, rfl, g1, g2, g3, g4⟩ := ct_er_el w h
        obtain ⟨_, _, _, _, w5, w6, w7⟩ := ct_wf_nd w
        have hn : ∀ x y, ct_rn (fun x y => y = ct_fr n B x ∧ (x = -1 ∨ x ∈ B)) x y → ct_rn (fun x y => y = ct_fr n B x ∧ x ∈ B) x y := fun x y h => by
          rcases h with h | ⟨p1, p2, p3, p4⟩
          · exact Or.inl h
          · rcases p4 with p4 | p4
            · exact absurd p4 p1
            · exact Or.inr ⟨p1, p2, p3, p4⟩
        exact ⟨⟨g1.1, g1.2.1, hn _ _ g1.2.2.1, hn _ _ g1.2.2.2⟩, iha _ w5 g2, ihb _ w6 g3, ihc _ w7 g4⟩)
    exact gen t h1 _ (ct_map_wf t h1) h9
  · intro e he
    rw [ct_map_fl, List.mem_map] at he
    obtain ⟨e0, he0, rfl⟩ := he
    have g : ∀ x, (x = -1 ∨ x ∈ ct_bl (ct_fl t)) → ct_nb1 (ct_fr n B x) := fun x hx => by
      rcases hx with rfl | hx
      · rw [hf1]; exact Or.inl rfl
      · obtain ⟨a1, a2⟩ := hin x ((hB x).mpr hx)
        rw [a1]; refine Or.inr ?_
        rw [cp_tI (by omega)]; omega
    exact ⟨g _ (hcn e0 he0).1, g _ (hcn e0 he0).2⟩
theorem ct_co_len {t : ct_T} (h : ct_co t) : (ct_bl (ct_fl t)).length < 150 ∧ (ct_bo t).length < 150 := by
  have h1 := ct_bl_sz t h.1
  have h2 := (ct_bo_perm t h.1).length_eq
  have h3 := h.2.2.2.2.2.2.2
  have h4 := ct_sz_ne h.1 h.2.1
  omega
theorem ct_can_co {t : ct_T} (h : ct_co t) : ct_co (ct_can t) ∧ ct_can (ct_can t) = ct_can t ∧ ct_pre (ct_can t) = ct_pre t := by
  have hl := ct_co_len h
  obtain ⟨e1, e2, e3⟩ := ct_fr_er h (n := 0) (B := ct_bo t) (fun x => (ct_bo_perm t h.1).mem_iff) (by omega)
  unfold ct_can
  rw [ct_rp_fr]
  have hco := ct_er_co e1 (ct_map_wf t h.1) e2 h e3
  refine ⟨hco, ?_, ?_⟩
  · have := ct_er_can e1 h.1 hco.1 e2 h.2.2.1 hco.2.2.1 (ct_co_cl h)
    unfold ct_can at this
    rw [ct_rp_fr] at this
    exact this.symm
  · exact (ct_er_pre e1 h.1 hco.1 e2 h.2.2.1 hco.2.2.1 (ct_co_cl h)).symm
theorem ct_pre_co {t : ct_T} (h : ct_co t) : ct_co (ct_pre t) ∧ ct_can (ct_pre t) = ct_can t ∧ ct_pre (ct_pre t) = ct_pre t := by
  have hl := ct_co_len h
  obtain ⟨e1, e2, e3⟩ := ct_fr_er h (n := 0) (B := ct_bl (ct_fl t)) (fun x => Iff.rfl) (by omega)
  have hco := ct_er_co e1 (ct_map_wf t h.1) e2 h e3
  exact ⟨hco, (ct_er_can e1 h.1 hco.1 e2 h.2.2.1 hco.2.2.1 (ct_co_cl h)).symm, (ct_er_pre e1 h.1 hco.1 e2 h.2.2.1 hco.2.2.1 (ct_co_cl h)).symm⟩
