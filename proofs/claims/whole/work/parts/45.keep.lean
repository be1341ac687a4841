/-! ## 45 copy and kept -/
/-- a tree that can be copied: its parts, its names, each bound once, and ahead of its occurrences -/
def ct_gd (t : ct_T) : Prop := ct_wf t ∧ ct_nb t ∧ ct_nws t ∧ (ct_bl (ct_fl t)).Nodup ∧ ct_pb (ct_bl (ct_fl t)) [] (ct_fl t)
def cW_cy (l : List Nat) (b j : Nat) : Bool := decide (92 ≤ b ∧ b ≤ 98 ∧ j ∈ l ∨ b = 83 ∧ (j = 17 ∨ j = 19 ∨ j = 20 ∨ j = 23) ∨ b = 100 ∨ b = 101)
theorem ct_bl_mem {t : ct_T} (hn : ct_nb t) (hw : ct_nws t) : ∀ y, y ∈ ct_bl (ct_fl t) → 0 ≤ y.toInt ∧ y.toInt < 32768 := by
  have h : ∀ (l : List ct_D), (∀ e, e ∈ l → (ct_nb1 e.2.2.1 ∧ ct_nb1 e.2.2.2) ∧ ct_nw e) → ∀ y, y ∈ ct_bl l → 0 ≤ y.toInt ∧ y.toInt < 32768 := by
    intro l
    induction l with
    | nil => intro _ y hy; cases hy
    | cons e l ih =>
      intro h y hy
      rcases List.mem_append.mp hy with hy | hy
      · obtain ⟨⟨b1, b2⟩, q1, q2, q3⟩ := h e List.mem_cons_self
        have get : ∀ x, ct_nb1 x → ¬ x = -1 → 0 ≤ x.toInt ∧ x.toInt < 32768 := fun x hx hne => by
          rcases hx with hx | hx
          · exact absurd hx hne
          · exact hx
        unfold ct_ob at hy
        split at hy
        · next h12 =>
          rcases List.mem_cons.mp hy with rfl | hy
          · exact get _ b1 (q2 h12).1
          · rcases List.mem_cons.mp hy with rfl | hy
            · exact get _ b2 (q2 h12).2.1
            · cases hy
        · split at hy
          · next h4 =>
            rcases List.mem_cons.mp hy with rfl | hy
            · exact get _ b1 (q1 (Or.inr h4)).1
            · cases hy
          · cases hy
      · exact ih (fun e he => h e (List.mem_cons_of_mem _ he)) y hy
  exact h _ (fun e he => ⟨hn e he, hw e he⟩)
theorem ct_tk_rg : ∀ {n nx : Nat}, ct_tk n [] nx = (List.range' nx n, [], nx + n)
  | 0, nx => rfl
  | n + 1, nx => by
    show (nx :: (ct_tk n [] (nx + 1)).1, (ct_tk n [] (nx + 1)).2) = _
    rw [ct_tk_rg (n := n), List.range'_succ]
    dsimp only
    rw [show nx + 1 + n = nx + (n + 1) by omega]
section CP45
variable {L : Nat} {xs : Nat → Int32} {d : Nat}
theorem cp_202 {S : cm_S} {K : cm_K} {t : ct_T} {p : Int32} {fp sp l sp2 : List Nat} {nx nx2 n c : Nat} (hg : ct_gd t) (hn : n + (ct_bl (ct_fl t)).length ≤ 32768) (hcl : cl_t S t p fp) (hal : cl_al S sp nx) (hok : cl_ok sp nx) (ht : ct_tk (ct_sz t) sp nx = (l, sp2, nx2)) (hcap : nx2 ≤ 8192)
    (hdis : ∀ x, x ∈ l → ¬ x ∈ fp) (hld : l.Nodup) (hv : S.1 83 20 = Int32.ofNat n) (hcs : cl_cs S c) (hc : c < 2147483647)
    (k : ∀ S2 q, cl_t S2 (ct_map (ct_fr n (ct_bl (ct_fl t))) t) q l → cl_al S2 sp2 nx2 → S2.1 83 20 = Int32.ofNat (n + (ct_bl (ct_fl t)).length) → cl_cs S2 (c + 1) → cf_W (cW_cy l) S S2 → K (.inl (some (.int q))) S2 0) :
    cm_At (am_XX L xs) (d + ct_sz t + 4) 202 0 [some (.ref 83), some (.int p)] [] S K := by
  obtain ⟨g1, g2, g3, g4, g5⟩ := hg
  refine cx_202_0 _ ?_
  rintro _ rfl
  rintro _ rfl
  rw [hcs.1, show Int32.ofNat c + 1 = Int32.ofNat (c + 1) from cp_ad (b := 1)]
  have c0 : cf_W (fun b j => decide (b = 83 ∧ j = 23)) S (cm_wI S 83 23 (Int32.ofNat (c + 1))) := cf_wI (decide_eq_true ⟨rfl, rfl⟩)
  refine cp_201 (n := n) g4 (ct_bl_mem g2 g3) hn t g1 _ _ _ _ [] [] _ _ _ _ _ _ ht (by rw [List.append_nil]; rfl) g2 g3 g5 (cl_t_cf c0 t g1 _ _ (fun b x q1 q2 _ => decide_eq_false (by omega)) hcl) (cl_al_cf c0 ⟨fun _ => rfl, rfl, rfl⟩ hal) hok hcap hdis hld ?_ ?_ (fun S2 q t2 a2 v2 s2 c2 => cp_r1 ?_)
  · rw [cp_wI1, if_neg (by omega)]; exact hv
  · exact cl_cs_st hc hcs (by rw [cp_wI1, if_pos ⟨rfl, rfl⟩]) (by funext j; rw [cp_wI1, if_neg (by omega)])
  · refine k S2 q t2 a2 v2 ?_ ?_
    · refine cl_st_cs s2 ?_ (by omega)
      rw [(c2 83 23 (decide_eq_false (by omega))).1, cp_wI1, if_pos ⟨rfl, rfl⟩]
    · refine cf_tr (cf_mono c0 (fun b j h => decide_eq_true ?_)) (cf_mono c2 (fun b j h => decide_eq_true ?_))
      · have h := of_decide_eq_true h; omega
      · have h := of_decide_eq_true h
        rcases h with h | h | h
        · exact Or.inl h
        · exact Or.inr (Or.inl ⟨h.1, by omega⟩)
        · exact Or.inr (Or.inr h)
/-- the model's form of a core: variables numbered in the order of the row -/
def ct_pre (t : ct_T) : ct_T := ct_map (ct_fr 0 (ct_bl (ct_fl t))) t
theorem cp_203 {S : cm_S} {K : cm_K} {t : ct_T} {p : Int32} {fp : List Nat} {pl c : Nat} (hg : ct_gd t) (hn : (ct_bl (ct_fl t)).length ≤ 32768) (hcl : cl_t S t p fp) (hcap : pl + ct_sz t ≤ 8192)
    (hdis : ∀ x, pl ≤ x → x < pl + ct_sz t → ¬ x ∈ fp) (hcs : cl_cs S c) (hc : c < 2147483647)
    (k : ∀ S2 q, cl_t S2 (ct_pre t) q (List.range' pl (ct_sz t)) → cl_al S2 [] (pl + ct_sz t) → S2.1 83 20 = Int32.ofNat (ct_bl (ct_fl t)).length → cl_cs S2 (c + 1) → cf_W (cW_cy (List.range' pl (ct_sz t))) S S2 → K (.inl (some (.int q))) S2 0) :
    cm_At (am_XX L xs) (d + ct_sz t + 4) 203 0 [some (.ref 83), some (.int p), some (.int (Int32.ofNat pl))] [] S K := by
  obtain ⟨g1, g2, g3, g4, g5⟩ := hg
  refine cx_203_0 _ _ ?_
  rintro _ rfl
  rintro _ rfl
  rintro _ rfl
  rintro _ rfl
  rintro _ rfl
  have c0 : cf_W (fun b j => decide (b = 83 ∧ (j = 17 ∨ j = 19 ∨ j = 20 ∨ j = 23))) S (cm_wI (cm_wI (cm_wI (cm_wI S 83 17 (Int32.ofNat pl)) 83 19 0) 83 20 0) 83 23 ((cm_wI (cm_wI (cm_wI S 83 17 (Int32.ofNat pl)) 83 19 0) 83 20 0).1 83 23 + 1)) := cf_tr (cf_wI (decide_eq_true (by omega))) (cf_tr (cf_wI (decide_eq_true (by omega))) (cf_tr (cf_wI (decide_eq_true (by omega))) (cf_wI (decide_eq_true (by omega)))))
  refine cp_201 (n := 0) g4 (ct_bl_mem g2 g3) (by omega) t g1 _ _ _ _ [] [] [] pl _ _ _ _ ct_tk_rg (by rw [List.append_nil]; rfl) g2 g3 g5 (cl_t_cf c0 t g1 _ _ (fun b x q1 q2 _ => decide_eq_false (by omega)) hcl) ?_ ⟨Nat.zero_le _, by omega, fun x hx => by cases hx⟩ hcap (fun x hx => ?_) List.nodup_range' ?_ ?_ (fun S2 q t2 a2 v2 s2 c2 => cp_r1 ?_)
  · exact ⟨by simp [cp_wI1], by simp [cp_wI1], trivial⟩
  · rw [List.mem_range'_1] at hx
    exact hdis x hx.1 hx.2
  · simp [cp_wI1]
  · refine cl_cs_st hc hcs ?_ (by funext j; simp [cp_wI1])
    simp only [cp_wI1]
    simp [hcs.1]
  · refine k S2 q t2 a2 ?_ ?_ ?_
    · rw [v2]; simp
    · refine cl_st_cs s2 ?_ (by omega)
      rw [(c2 83 23 (decide_eq_false (by omega))).1]
      simp [cp_wI1, hcs.1]
    · refine cf_tr (cf_mono c0 (fun b j h => decide_eq_true ?_)) (cf_mono c2 (fun b j h => decide_eq_true ?_))
      · have h := of_decide_eq_true h; omega
      · have h := of_decide_eq_true h
        rcases h with h | h | h
        · exact Or.inl h
        · exact Or.inr (Or.inl ⟨h.1, by omega⟩)
        · exact Or.inr (Or.inr h)
end CP45
