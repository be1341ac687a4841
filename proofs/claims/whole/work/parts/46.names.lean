/-! ## 46 the same tree but for names; forms that do not depend on names; scopes -/
def ct_f2 {α β : Type} (R : α → β → Prop) : List α → List β → Prop
  | [], [] => True
  | a :: l, b :: m => R a b ∧ ct_f2 R l m
  | _, _ => False
theorem ct_f2_app {α β : Type} {R : α → β → Prop} {l2 : List α} {m2 : List β} (h2 : ct_f2 R l2 m2) : ∀ {l : List α} {m : List β}, ct_f2 R l m → ct_f2 R (l ++ l2) (m ++ m2)
  | [], [], _ => h2
  | [], _ :: _, h => h.elim
  | _ :: _, [], h => h.elim
  | a :: l, b :: m, h => ⟨h.1, ct_f2_app h2 h.2⟩
theorem ct_f2_len {α β : Type} {R : α → β → Prop} : ∀ {l : List α} {m : List β}, ct_f2 R l m → l.length = m.length
  | [], [], _ => rfl
  | [], _ :: _, h => h.elim
  | _ :: _, [], h => h.elim
  | a :: l, b :: m, h => by rw [List.length_cons, List.length_cons, ct_f2_len h.2]
theorem ct_f2_mono {α β : Type} {R R2 : α → β → Prop} (hR : ∀ a b, R a b → R2 a b) : ∀ {l : List α} {m : List β}, ct_f2 R l m → ct_f2 R2 l m
  | [], [], _ => trivial
  | [], _ :: _, h => h.elim
  | _ :: _, [], h => h.elim
  | a :: l, b :: m, h => ⟨hR _ _ h.1, ct_f2_mono hR h.2⟩
/-- names that belong together, one to one -/
abbrev ct_R : Type := Int32 → Int32 → Prop
def ct_bi (R : ct_R) : Prop := (∀ x y z, R x y → R x z → y = z) ∧ ∀ x y z, R x z → R y z → x = y
def ct_rn (R : ct_R) (x y : Int32) : Prop := (x = -1 ∧ y = -1) ∨ (¬ x = -1 ∧ ¬ y = -1 ∧ R x y)
def ct_ed (R : ct_R) (e f : ct_D) : Prop := e.1 = f.1 ∧ e.2.1 = f.2.1 ∧ ct_rn R e.2.2.1 f.2.2.1 ∧ ct_rn R e.2.2.2 f.2.2.2
def ct_er (R : ct_R) : ct_T → ct_T → Prop
  | .inner _ e _ a (.inner _ _ _ b c), .inner _ f _ x (.inner _ _ _ y z) => ct_ed R e f ∧ ct_er R a x ∧ ct_er R b y ∧ ct_er R c z
  | .leaf, .leaf => True
  | _, _ => False
theorem ct_er_nd {R : ct_R} {e f : ct_D} {a b c x y z : ct_T} : ct_er R (ct_nd e a b c) (ct_nd f x y z) ↔ ct_ed R e f ∧ ct_er R a x ∧ ct_er R b y ∧ ct_er R c z := Iff.rfl
theorem ct_er_lf {R : ct_R} {t : ct_T} (hw : ct_wf t) (h : ct_er R .leaf t) : t = .leaf :=
  ct_ind (P := fun t => ct_er R .leaf t → t = .leaf) (fun _ => rfl) (fun e a b c _ _ _ _ h => h.elim) t hw h
theorem ct_er_el {R : ct_R} {e : ct_D} {a b c t : ct_T} (hw : ct_wf t) (h : ct_er R (ct_nd e a b c) t) : ∃ f x y z, t = ct_nd f x y z ∧ ct_ed R e f ∧ ct_er R a x ∧ ct_er R b y ∧ ct_er R c z :=
  ct_ind (P := fun t => ct_er R (ct_nd e a b c) t → ∃ f x y z, t = ct_nd f x y z ∧ ct_ed R e f ∧ ct_er R a x ∧ ct_er R b y ∧ ct_er R c z) (fun h => h.elim) (fun f x y z _ _ _ _ h => ⟨f, x, y, z, rfl, h⟩) t hw h
theorem ct_er_mono {R R2 : ct_R} (hR : ∀ x y, R x y → R2 x y) : ∀ t, ct_wf t → ∀ t2, ct_wf t2 → ct_er R t t2 → ct_er R2 t t2 :=
  ct_ind (fun t2 w h => by rw [ct_er_lf w h]; trivial) (fun e a b c hw iha ihb ihc t2 w h => by
    obtain ⟨f, x, y, z, rfl, h1, h2, h3, h4⟩ := ct_er_el w h
    obtain ⟨_, _, _, _, w5, w6, w7⟩ := ct_wf_nd w
    have hn : ∀ x y, ct_rn R x y → ct_rn R2 x y := fun x y h => by
      rcases h with h | h
      · exact Or.inl h
      · exact Or.inr ⟨h.1, h.2.1, hR _ _ h.2.2⟩
    exact ⟨⟨h1.1, h1.2.1, hn _ _ h1.2.2.1, hn _ _ h1.2.2.2⟩, iha _ w5 h2, ihb _ w6 h3, ihc _ w7 h4⟩)
theorem ct_er_sz {R : ct_R} : ∀ t, ct_wf t → ∀ t2, ct_wf t2 → ct_er R t t2 → ct_sz t = ct_sz t2 ∧ (t = .leaf ↔ t2 = .leaf) :=
  ct_ind (fun t2 w h => by rw [ct_er_lf w h]; exact ⟨rfl, Iff.rfl⟩) (fun e a b c hw iha ihb ihc t2 w h => by
    obtain ⟨f, x, y, z, rfl, h1, h2, h3, h4⟩ := ct_er_el w h
    obtain ⟨_, _, _, _, w5, w6, w7⟩ := ct_wf_nd w
    refine ⟨?_, ⟨fun h => (by cases h), fun h => (by cases h)⟩⟩
    rw [ct_sz_nd, ct_sz_nd, (iha _ w5 h2).1, (ihb _ w6 h3).1, (ihc _ w7 h4).1])
theorem ct_er_fl {R : ct_R} : ∀ t, ct_wf t → ∀ t2, ct_wf t2 → ct_er R t t2 → ct_f2 (ct_ed R) (ct_fl t) (ct_fl t2) :=
  ct_ind (fun t2 w h => by rw [ct_er_lf w h]; trivial) (fun e a b c hw iha ihb ihc t2 w h => by
    obtain ⟨f, x, y, z, rfl, h1, h2, h3, h4⟩ := ct_er_el w h
    obtain ⟨_, _, _, _, w5, w6, w7⟩ := ct_wf_nd w
    rw [ct_fl_nd, ct_fl_nd]
    exact ⟨h1, ct_f2_app (ct_f2_app (ihc _ w7 h4) (ihb _ w6 h3)) (iha _ w5 h2)⟩)
theorem ct_rn_nm {R : ct_R} {x y : Int32} (h : ct_rn R x y) : (x = -1 ↔ y = -1) := by
  rcases h with h | h
  · exact ⟨fun _ => h.2, fun _ => h.1⟩
  · exact ⟨fun hc => absurd hc h.1, fun hc => absurd hc h.2.1⟩
theorem ct_ed_ob {R : ct_R} {e f : ct_D} (h : ct_ed R e f) (hn : ct_nw e) : ct_f2 R (ct_ob e) (ct_ob f) := by
  obtain ⟨h1, h2, h3, h4⟩ := h
  obtain ⟨q1, q2, q3⟩ := hn
  have get : ∀ {x y}, ct_rn R x y → ¬ x = -1 → R x y := fun h hx => by
    rcases h with h | h
    · exact absurd h.1 hx
    · exact h.2.2
  unfold ct_ob
  rw [← h1]
  split
  · next h12 => exact ⟨get h3 (q2 h12).1, get h4 (q2 h12).2.1, trivial⟩
  · split
    · next h48 => exact ⟨get h3 (q1 (Or.inr h48)).1, trivial⟩
    · trivial
theorem ct_f2_bl {R : ct_R} : ∀ {l m : List ct_D}, ct_f2 (ct_ed R) l m → (∀ e, e ∈ l → ct_nw e) → ct_f2 R (ct_bl l) (ct_bl m)
  | [], [], _, _ => trivial
  | [], _ :: _, h, _ => h.elim
  | _ :: _, [], h, _ => h.elim
  | e :: l, f :: m, h, hn => ct_f2_app (ct_f2_bl h.2 (fun x hx => hn x (List.mem_cons_of_mem _ hx))) (ct_ed_ob h.1 (hn e List.mem_cons_self))
theorem ct_er_bo {R : ct_R} : ∀ t, ct_wf t → ∀ t2, ct_wf t2 → ct_nws t → ct_er R t t2 → ct_f2 R (ct_bo t) (ct_bo t2) :=
  ct_ind (fun t2 w _ h => by rw [ct_er_lf w h]; trivial) (fun e a b c hw iha ihb ihc t2 w hn h => by
    obtain ⟨f, x, y, z, rfl, h1, h2, h3, h4⟩ := ct_er_el w h
    obtain ⟨_, _, _, _, w5, w6, w7⟩ := ct_wf_nd w
    obtain ⟨n0, n1, n2, n3⟩ := ct_nws_nd hn
    have ja := iha _ w5 n1 h2
    have jb := ihb _ w6 n2 h3
    have jc := ihc _ w7 n3 h4
    obtain ⟨q1, q2, q3⟩ := n0
    have get : ∀ {x y}, ct_rn R x y → ¬ x = -1 → R x y := fun h hx => by
      rcases h with h | h
      · exact absurd h.1 hx
      · exact h.2.2
    rw [ct_bo_nd, ct_bo_nd, ← h1.1]
    split
    · next g => exact ⟨get h1.2.2.1 (q1 (by rcases g with g | g; exact Or.inr (Or.inl g); exact Or.inr (Or.inr (Or.inr (Or.inl g))))).1, ct_f2_app (ct_f2_app jc jb) ja⟩
    · split
      · next g => exact ct_f2_app (show ct_f2 R (e.2.2.1 :: (ct_bo b ++ ct_bo c)) (f.2.2.1 :: (ct_bo y ++ ct_bo z)) from ⟨get h1.2.2.1 (q1 (by rcases g with g | g; exact Or.inr (Or.inr (Or.inl g)); exact Or.inr (Or.inr (Or.inr (Or.inr g))))).1, ct_f2_app jc jb⟩) ja
      · split
        · next g => exact ct_f2_app (ct_f2_app (show ct_f2 R (e.2.2.1 :: e.2.2.2 :: ct_bo c) (f.2.2.1 :: f.2.2.2 :: ct_bo z) from ⟨get h1.2.2.1 (q2 g).1, get h1.2.2.2 (q2 g).2.1, jc⟩) jb) ja
        · exact ct_f2_app (ct_f2_app jc jb) ja)
/-- places are the same -/
theorem ct_f2_ix {R : ct_R} (hb : ct_bi R) {x y : Int32} (hxy : R x y) : ∀ {l m : List Int32}, ct_f2 R l m → ct_ix x l = ct_ix y m ∧ (x ∈ l ↔ y ∈ m)
  | [], [], _ => ⟨rfl, ⟨fun h => (by cases h), fun h => (by cases h)⟩⟩
  | [], _ :: _, h => h.elim
  | _ :: _, [], h => h.elim
  | a :: l, b :: m, h => by
    obtain ⟨h1, h2⟩ := ct_f2_ix hb hxy h.2
    rw [ct_ix_cons, ct_ix_cons]
    by_cases hax : a = x
    · have hby : b = y := hb.1 _ _ _ (hax ▸ h.1) hxy
      rw [if_pos hax, if_pos hby]
      exact ⟨rfl, ⟨fun _ => by rw [hby]; exact List.mem_cons_self, fun _ => by rw [hax]; exact List.mem_cons_self⟩⟩
    · have hby : ¬ b = y := fun hc => hax (hb.2 _ _ _ (hc ▸ h.1) hxy)
      rw [if_neg hax, if_neg hby, h1]
      refine ⟨rfl, ?_⟩
      rw [List.mem_cons, List.mem_cons]
      exact ⟨fun hc => by rcases hc with hc | hc; exact absurd hc.symm hax; exact Or.inr (h2.mp hc), fun hc => by rcases hc with hc | hc; exact absurd hc.symm hby; exact Or.inr (h2.mpr hc)⟩
/-- all variables are bound within -/
def ct_cl (t : ct_T) : Prop := ∀ e, e ∈ ct_fl t → e.1 = 2 → e.2.2.1 ∈ ct_bl (ct_fl t)
/-- a tree with the names that a function gives to what is bound is the same for both -/
theorem ct_er_map {R : ct_R} {f g : Int32 → Int32} : ∀ t, ct_wf t → ∀ t2, ct_wf t2 → ct_er R t t2 → f (-1) = -1 → g (-1) = -1 → (∀ x y, ¬ x = -1 → ¬ y = -1 → R x y → f x = g y) → ct_map f t = ct_map g t2 :=
  ct_ind (fun t2 w h _ _ _ => by rw [ct_er_lf w h]; rfl) (fun e a b c hw iha ihb ihc t2 w h h5 h6 h7 => by
    obtain ⟨f2, x, y, z, rfl, h1, h2, h3, h4⟩ := ct_er_el w h
    obtain ⟨_, _, _, _, w5, w6, w7⟩ := ct_wf_nd w
    rw [ct_map_nd, ct_map_nd, iha _ w5 h2 h5 h6 h7, ihb _ w6 h3 h5 h6 h7, ihc _ w7 h4 h5 h6 h7]
    have hn : ∀ x y, ct_rn R x y → f x = g y := fun x y h => by
      rcases h with ⟨h, h8⟩ | h
      · rw [h, h8, h5, h6]
      · exact h7 _ _ h.1 h.2.1 h.2.2
    congr 1
    unfold ct_rd
    rw [h1.1, h1.2.1, hn _ _ h1.2.2.1, hn _ _ h1.2.2.2])
theorem ct_fl_sub {e : ct_D} {a b c : ct_T} {P : ct_D → Prop} (h : ∀ x, x ∈ ct_fl (ct_nd e a b c) → P x) : P e ∧ (∀ x, x ∈ ct_fl a → P x) ∧ (∀ x, x ∈ ct_fl b → P x) ∧ ∀ x, x ∈ ct_fl c → P x := by
  rw [ct_fl_nd] at h
  exact ⟨h e List.mem_cons_self, fun x hx => h x (List.mem_cons_of_mem _ (List.mem_append_left _ hx)), fun x hx => h x (List.mem_cons_of_mem _ (List.mem_append_right _ (List.mem_append_left _ hx))), fun x hx => h x (List.mem_cons_of_mem _ (List.mem_append_right _ (List.mem_append_right _ hx)))⟩
theorem ct_er_rs {R : ct_R} {N : Int32 → Prop} : ∀ t, ct_wf t → ∀ t2, ct_wf t2 → (∀ e, e ∈ ct_fl t → N e.2.2.1 ∧ N e.2.2.2) → ct_er R t t2 → ct_er (fun x y => R x y ∧ N x) t t2 :=
  ct_ind (fun t2 w _ h => by rw [ct_er_lf w h]; trivial) (fun e a b c hw iha ihb ihc t2 w hN h => by
    obtain ⟨f, x, y, z, rfl, h1, h2, h3, h4⟩ := ct_er_el w h
    obtain ⟨_, _, _, _, w5, w6, w7⟩ := ct_wf_nd w
    obtain ⟨n0, na, nb, nc⟩ := ct_fl_sub hN
    have hn : ∀ x y, ct_rn R x y → N x → ct_rn (fun x y => R x y ∧ N x) x y := fun x y h hx => by
      rcases h with h | h
      · exact Or.inl h
      · exact Or.inr ⟨h.1, h.2.1, h.2.2, hx⟩
    exact ⟨⟨h1.1, h1.2.1, hn _ _ h1.2.2.1 n0.1, hn _ _ h1.2.2.2 n0.2⟩, iha _ w5 na h2, ihb _ w6 nb h3, ihc _ w7 nc h4⟩)
/-- all names are bound names, or none -/
def ct_cn0 (t : ct_T) : Prop := ∀ e, e ∈ ct_fl t → (e.2.2.1 = -1 ∨ e.2.2.1 ∈ ct_bl (ct_fl t)) ∧ (e.2.2.2 = -1 ∨ e.2.2.2 ∈ ct_bl (ct_fl t))
theorem ct_bl_in {l : List ct_D} {x : Int32} : ∀ {l : List ct_D} {e : ct_D}, e ∈ l → x ∈ ct_ob e → x ∈ ct_bl l
  | [], _, h, _ => by cases h
  | f :: l, e, h, hx => by
    show x ∈ ct_ob f ++ ct_bl l
    rcases List.mem_cons.mp h with h | h
    · rw [← h]; exact List.mem_append_left _ hx
    · exact List.mem_append_right _ (ct_bl_in (l := l) h hx)
theorem ct_cn0_of {t : ct_T} (hn : ct_nws t) (hc : ct_cl t) : ct_cn0 t := by
  intro e he
  obtain ⟨q1, q2, q3⟩ := hn e he
  by_cases h2 : e.1 = 2
  · exact ⟨Or.inr (hc e he h2), Or.inl (q1 (Or.inl h2)).2⟩
  · by_cases h12 : e.1 = 12
    · exact ⟨Or.inr (ct_bl_in (l := []) he (ct_ob_v (Or.inr (Or.inr (Or.inr (Or.inr h12)))))), Or.inr (ct_bl_in (l := []) he (ct_ob_w h12))⟩
    · by_cases h4 : e.1 = 4 ∨ e.1 = 6 ∨ e.1 = 7 ∨ e.1 = 8
      · exact ⟨Or.inr (ct_bl_in (l := []) he (ct_ob_v (by rcases h4 with h | h | h | h; exact Or.inl h; exact Or.inr (Or.inl h); exact Or.inr (Or.inr (Or.inl h)); exact Or.inr (Or.inr (Or.inr (Or.inl h)))))), Or.inl (q1 (Or.inr h4)).2⟩
      · have := q3 (fun hc => by
          rcases hc with hc | hc | hc | hc | hc | hc
          · exact h2 hc
          · exact h4 (Or.inl hc)
          · exact h4 (Or.inr (Or.inl hc))
          · exact h4 (Or.inr (Or.inr (Or.inl hc)))
          · exact h4 (Or.inr (Or.inr (Or.inr hc)))
          · exact h12 hc)
        exact ⟨Or.inl this.1, Or.inl this.2⟩
/-- two trees alike but for names: what is made of the order of their names is the same -/
theorem ct_er_same {R : ct_R} (hb : ct_bi R) {t t2 : ct_T} (hw : ct_wf t) (hw2 : ct_wf t2) (h : ct_er R t t2) {B C : List Int32} (hBC : ct_f2 R B C) (hB : ∀ y, y ∈ B → ¬ y = -1) (hC : ∀ y, y ∈ C → ¬ y = -1) (hN : ∀ e, e ∈ ct_fl t → (e.2.2.1 = -1 ∨ e.2.2.1 ∈ B) ∧ (e.2.2.2 = -1 ∨ e.2.2.2 ∈ B)) {m : Nat} : ct_map (ct_fr m B) t = ct_map (ct_fr m C) t2 := by
  have h2 := ct_er_rs (N := fun x => x = -1 ∨ x ∈ B) t hw t2 hw2 hN h
  refine ct_er_map t hw t2 hw2 h2 (by unfold ct_fr; rw [if_neg (fun hc => hB _ hc rfl)]) (by unfold ct_fr; rw [if_neg (fun hc => hC _ hc rfl)]) (fun x y h3 h4 h5 => ?_)
  have hx : x ∈ B := by
    rcases h5.2 with h | h
    · exact absurd h h3
    · exact h
  obtain ⟨h6, h7⟩ := ct_f2_ix hb h5.1 hBC
  unfold ct_fr
  rw [if_pos hx, if_pos (h7.mp hx), h6]
theorem ct_bl_nm {l : List ct_D} (hn : ∀ e, e ∈ l → ct_nw e) : ∀ y, y ∈ ct_bl l → ¬ y = -1 := by
  induction l with
  | nil => intro y hy; cases hy
  | cons e l ih =>
    intro y hy
    rcases List.mem_append.mp hy with hy | hy
    · obtain ⟨q1, q2, q3⟩ := hn e List.mem_cons_self
      unfold ct_ob at hy
      split at hy
      · next h12 =>
        rcases List.mem_cons.mp hy with rfl | hy
        · exact (q2 h12).1
        · rcases List.mem_cons.mp hy with rfl | hy
          · exact (q2 h12).2.1
          · cases hy
      · split at hy
        · next h4 =>
          rcases List.mem_cons.mp hy with rfl | hy
          · exact (q1 (Or.inr h4)).1
          · cases hy
        · cases hy
    · exact ih (fun e he => hn e (List.mem_cons_of_mem _ he)) y hy
theorem ct_er_nws {R : ct_R} {t t2 : ct_T} (hw : ct_wf t) (hw2 : ct_wf t2) (hR : ∀ x y z w, R x y → R z w → y = w → x = z) (h : ct_er R t t2) (hn : ct_nws t) : ct_nws t2 := by
  have gen : ∀ {l m : List ct_D}, ct_f2 (ct_ed R) l m → (∀ e, e ∈ l → ct_nw e) → ∀ e, e ∈ m → ct_nw e := by
    intro l
    induction l with
    | nil => intro m hm _ e he; cases m with
      | nil => cases he
      | cons => exact hm.elim
    | cons a l ih => intro m hm hn e he; cases m with
      | nil => cases he
      | cons b m =>
        rcases List.mem_cons.mp he with rfl | he
        · obtain ⟨q1, q2, q3⟩ := hn a List.mem_cons_self
          obtain ⟨⟨h1, h2, h3, h4⟩, _⟩ := hm
          unfold ct_nw
          rw [← h1]
          refine ⟨fun g => ⟨fun hc => (q1 g).1 ((ct_rn_nm h3).mpr hc), (ct_rn_nm h4).mp (q1 g).2⟩, fun g => ⟨fun hc => (q2 g).1 ((ct_rn_nm h3).mpr hc), fun hc => (q2 g).2.1 ((ct_rn_nm h4).mpr hc), fun hc => ?_⟩, fun g => ⟨(ct_rn_nm h3).mp (q3 g).1, (ct_rn_nm h4).mp (q3 g).2⟩⟩
          rcases h3 with h3 | h3
          · exact (q2 g).1 h3.1
          · rcases h4 with h4 | h4
            · exact (q2 g).2.1 h4.1
            · exact (q2 g).2.2 (hR _ _ _ _ h3.2.2 h4.2.2 hc)
        · exact ih hm.2 (fun x hx => hn x (List.mem_cons_of_mem _ hx)) e he
  exact gen (ct_er_fl t hw t2 hw2 h) hn
/-- both canonical forms are the same for trees alike but for names -/
theorem ct_er_pre {R : ct_R} (hb : ct_bi R) {t t2 : ct_T} (hw : ct_wf t) (hw2 : ct_wf t2) (h : ct_er R t t2) (hn : ct_nws t) (hn2 : ct_nws t2) (hc : ct_cl t) : ct_pre t = ct_pre t2 :=
  ct_er_same hb hw hw2 h (ct_f2_bl (ct_er_fl t hw t2 hw2 h) hn) (ct_bl_nm hn) (ct_bl_nm hn2) (ct_cn0_of hn hc)
theorem ct_rp_fr {B : List Int32} : ct_rp B B = ct_fr 0 B := by
  funext x
  unfold ct_rp ct_fr
  rw [Nat.zero_add]
theorem ct_er_can {R : ct_R} (hb : ct_bi R) {t t2 : ct_T} (hw : ct_wf t) (hw2 : ct_wf t2) (h : ct_er R t t2) (hn : ct_nws t) (hn2 : ct_nws t2) (hc : ct_cl t) : ct_can t = ct_can t2 := by
  unfold ct_can
  rw [ct_rp_fr, ct_rp_fr]
  refine ct_er_same hb hw hw2 h (ct_er_bo t hw t2 hw2 hn h) (fun y hy => ct_bl_nm hn y ((ct_bo_perm t hw).mem_iff.mp hy)) (fun y hy => ct_bl_nm hn2 y ((ct_bo_perm t2 hw2).mem_iff.mp hy)) (fun e he => ?_)
  obtain ⟨q1, q2⟩ := ct_cn0_of hn hc e he
  rw [(ct_bo_perm t hw).mem_iff, (ct_bo_perm t hw).mem_iff]
  exact ⟨q1, q2⟩
/-- a tree and its renaming -/
theorem ct_er_self {f : Int32 → Int32} (h1 : f (-1) = -1) : ∀ t, ct_wf t → (∀ e, e ∈ ct_fl t → (¬ e.2.2.1 = -1 → ¬ f e.2.2.1 = -1) ∧ (¬ e.2.2.2 = -1 → ¬ f e.2.2.2 = -1)) → ct_er (fun x y => y = f x) t (ct_map f t) :=
  ct_ind (fun _ => trivial) (fun e a b c hw iha ihb ihc h => by
    obtain ⟨h0, ha, hb, hc⟩ := ct_fl_sub h
    rw [ct_map_nd, ct_er_nd]
    have hn : ∀ x, (¬ x = -1 → ¬ f x = -1) → ct_rn (fun x y => y = f x) x (f x) := fun x hx => by
      by_cases h : x = -1
      · subst h; exact Or.inl ⟨rfl, h1⟩
      · exact Or.inr ⟨h, hx h, rfl⟩
    exact ⟨⟨rfl, rfl, hn _ h0.1, hn _ h0.2⟩, iha ha, ihb hb, ihc hc⟩)
