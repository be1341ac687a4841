/-! ## 94 how much a tree can grow -/
/-- how many occurrences there are of some variables -/
def dt_vf (F : Int32 → Bool) : List ct_D → Nat
  | [] => 0
  | e :: l => (if e.1 = 2 ∧ F e.2.2.1 = true then 1 else 0) + dt_vf F l
theorem dt_vf_app {F : Int32 → Bool} {l2 : List ct_D} : ∀ l, dt_vf F (l ++ l2) = dt_vf F l + dt_vf F l2
  | [] => by rw [List.nil_append]; unfold dt_vf; omega
  | e :: l => by
    rw [List.cons_append]
    show (if e.1 = 2 ∧ F e.2.2.1 = true then 1 else 0) + dt_vf F (l ++ l2) = (if e.1 = 2 ∧ F e.2.2.1 = true then 1 else 0) + dt_vf F l + dt_vf F l2
    rw [dt_vf_app l]; omega
abbrev dt_v (F : Int32 → Bool) (t : ct_T) : Nat := dt_vf F (ct_fl t)
theorem dt_v_nd {F : Int32 → Bool} {e : ct_D} {a b c : ct_T} : dt_v F (ct_nd e a b c) = (if e.1 = 2 ∧ F e.2.2.1 = true then 1 else 0) + (dt_v F a + (dt_v F b + dt_v F c)) := by
  unfold dt_v
  rw [ct_fl_nd]
  show (if e.1 = 2 ∧ F e.2.2.1 = true then 1 else 0) + dt_vf F (ct_fl a ++ (ct_fl b ++ ct_fl c)) = _
  rw [dt_vf_app, dt_vf_app]
theorem dt_v_lf {F : Int32 → Bool} : dt_v F .leaf = 0 := rfl
theorem dt_v_n2 {F : Int32 → Bool} {e : ct_D} {a b c : ct_T} (h : ¬ e.1 = 2) : dt_v F (ct_nd e a b c) = dt_v F a + (dt_v F b + dt_v F c) := by
  rw [dt_v_nd, if_neg (fun hc => h hc.1)]; omega
/-- variables that a tree does not bind, and no fresh ones -/
def dt_F (n : Nat) (F : Int32 → Bool) (t : ct_T) : Prop := ∀ z, F z = true → dt_ct z t = 0 ∧ z.toInt < (n : Int)
theorem dt_cp_v {F : Int32 → Bool} {n : Nat} {t : ct_T} (hF : dt_F n F t) (hn : n + dt_nb t < 2147483648) : dt_v F (dt_cp n t) = dt_v F t := by
  have key : ∀ x, (F (ct_fr n (dt_B t) x) = true) = (F x = true) := fun x => by
    by_cases hx : x ∈ dt_B t
    · have h1 : ¬ F x = true := fun hc => by
        have := (hF x hc).1
        rw [dt_ct_in] at hx; omega
      have h2 : ¬ F (ct_fr n (dt_B t) x) = true := fun hc => by
        have := (hF _ hc).2
        have h3 := ct_ix_lt hx
        unfold dt_nb at hn
        rw [dt_fr_in hx, cp_tI (by omega)] at this
        omega
      rw [eq_false h1, eq_false h2]
    · rw [dt_fr_no hx]
  unfold dt_v dt_cp
  rw [ct_map_fl]
  have gen : ∀ l : List ct_D, dt_vf F (l.map (ct_rd (ct_fr n (dt_B t)))) = dt_vf F l := by
    intro l
    induction l with
    | nil => rfl
    | cons e l ih =>
      rw [List.map_cons]
      show (if e.1 = 2 ∧ F (ct_fr n (dt_B t) e.2.2.1) = true then 1 else 0) + _ = (if e.1 = 2 ∧ F e.2.2.1 = true then 1 else 0) + dt_vf F l
      rw [ih]
      simp only [key]
  exact gen _
theorem dt_put_v {F : Int32 → Bool} {v : ct_T} {x : Int32} {n0 : Nat} (hx : ¬ F x = true) (hF : dt_F n0 F v) : ∀ b, ct_wf b → ∀ n, n0 ≤ n → n + ct_cn x (ct_fl b) * dt_nb v < 2147483648 → dt_v F (dt_put v x b n).1 = dt_v F b + ct_cn x (ct_fl b) * dt_v F v ∧ (dt_put v x b n).2 = n + ct_cn x (ct_fl b) * dt_nb v :=
  ct_ind (fun n _ _ => by
    rw [dt_put_lf]
    refine ⟨?_, ?_⟩
    · show 0 = 0 + 0 * _
      omega
    · show n = n + 0 * _
      omega) (fun e a b c hw iha ihb ihc n h0 hlt => by
    have hcn := ct_cn_nd (x := x) (e := e) (a := a) (b := b) (c := c)
    rw [dt_put_nd]
    by_cases h2 : e.1 = 2
    · obtain ⟨rfl, rfl, rfl⟩ := ct_leafs hw h2
      have hz : ∀ y, ct_cn y (ct_fl .leaf) = 0 := fun y => rfl
      rw [hz] at hcn
      rw [if_pos h2]
      by_cases hxx : e.2.2.1 = x
      · rw [if_pos hxx]
        rw [if_pos ⟨h2, hxx⟩] at hcn
        have hc1 : ct_cn x (ct_fl (ct_nd e .leaf .leaf .leaf)) = 1 := by omega
        rw [hc1] at hlt ⊢
        rw [dt_cp_v (n := n) (fun z hz => ⟨(hF z hz).1, by have := (hF z hz).2; omega⟩) (by omega), dt_v_nd, if_neg (fun hc => hx (by rw [← hxx]; exact hc.2)), dt_v_lf]
        refine ⟨by omega, by dsimp only; omega⟩
      · rw [if_neg hxx]
        rw [if_neg (fun hc => hxx hc.2)] at hcn
        have hc0 : ct_cn x (ct_fl (ct_nd e .leaf .leaf .leaf)) = 0 := by omega
        rw [hc0]
        exact ⟨by dsimp only; omega, by dsimp only; omega⟩
    · rw [if_neg h2]
      rw [if_neg (fun hc => h2 hc.1), Nat.zero_add] at hcn
      rw [hcn, Nat.add_mul, Nat.add_mul] at hlt ⊢
      rw [Nat.add_mul, Nat.add_mul, dt_v_n2 h2, dt_v_n2 h2]
      obtain ⟨a1, a2⟩ := iha n h0 (by omega)
      rw [a1, a2]
      obtain ⟨b1, b2⟩ := ihb (n + ct_cn x (ct_fl a) * dt_nb v) (by omega) (by omega)
      rw [b1, b2]
      obtain ⟨c1, c2⟩ := ihc (n + ct_cn x (ct_fl a) * dt_nb v + ct_cn x (ct_fl b) * dt_nb v) (by omega) (by omega)
      rw [c1, c2]
      exact ⟨by omega, by omega⟩)
/-- what a step makes of sizes and occurrences: no more than there was, or a value put -/
def dt_gr (n : Nat) (e : ct_D) (a b c t2 : ct_T) : Prop := (ct_sz t2 ≤ 9 + (ct_sz a + (ct_sz b + ct_sz c)) ∧ ∀ F, (∀ z, F z = true → z.toInt < (n : Int)) → dt_v F t2 ≤ dt_v F a + (dt_v F b + dt_v F c)) ∨ (e.1 = 6 ∧ ¬ a = .leaf ∧ t2 = (dt_put a e.2.2.1 b n).1 ∧ ¬ ct_cn e.2.2.1 (ct_fl b) = 0 ∧ (ct_sz a ≤ 1 ∨ ct_cn e.2.2.1 (ct_fl b) = 1 ∨ ct_sz a ≤ 6))
theorem dt_at_sz {t : ct_T} (hw : ct_wf t) (h : dt_at (dt_k t) = true) : ct_sz t ≤ 1 := by
  have h1 := dt_at_of h
  have hn : ¬ t = .leaf := dt_kl (fun hc => by rw [hc] at h1; exact absurd h1 (by decide))
  obtain ⟨e, a, b, c, rfl⟩ := ct_cs hw hn
  obtain ⟨rfl, rfl, rfl⟩ := ct_q0 hw (by
    rcases h1 with h | h | h
    · exact Or.inl h
    · exact Or.inr (Or.inl h)
    · exact Or.inr (Or.inr (Or.inl h)))
  rw [ct_sz_nd, ct_sz_lf]; omega
theorem dt_lift_gr {n : Nat} {e : ct_D} {a b c : ct_T} (hw : ct_wf a) (h2 : ¬ e.1 = 2) (hk : dt_lk (dt_k a) = true) : dt_gr n e a b c (dt_lift e a b c) := by
  have hk6 := dt_lk_of hk
  have hal : ¬ a = .leaf := dt_kl (fun hc => by rw [hc] at hk6; exact absurd hk6 (by decide))
  obtain ⟨f, x, y, z, rfl⟩ := ct_cs hw hal
  have hf2 : ¬ f.1 = 2 := fun hc => by
    have hk6' : f.1 = 6 ∨ f.1 = 7 ∨ f.1 = 8 := hk6
    rw [hc] at hk6'; exact absurd hk6' (by decide)
  refine Or.inl ⟨?_, fun F _ => ?_⟩
  · show ct_sz (ct_nd f x (ct_nd e y b c) z) ≤ _
    rw [ct_sz_nd, ct_sz_nd, ct_sz_nd]; omega
  · show dt_v F (ct_nd f x (ct_nd e y b c) z) ≤ _
    rw [dt_v_n2 hf2, dt_v_n2 h2, dt_v_n2 hf2]; omega
section DT94
variable {C : Nat → ct_T} {R : List (Int32 × Int32 × Int32 × Int32)} {nq : ct_T → Nat → Bool} {p n m : Nat} {e : ct_D} {a b c t2 : ct_T}
theorem dt_si_gr (hC : dt_C C) (hn : n < 2000000000) (hw : dt_w (ct_nd e a b c)) (h : dt_si C n e a b c = some (t2, m)) : dt_gr n e a b c t2 := by
  obtain ⟨p1, p2, pa, pb, pc⟩ := dt_w_nd hw
  unfold dt_si at h
  by_cases k5 : e.1 = 5
  · rw [if_pos k5] at h
    obtain ⟨la, lb, lc⟩ := ct_q2 hw.1 (Or.inl k5)
    have h2 : ¬ e.1 = 2 := by rw [k5]; decide
    unfold dt_ap at h
    by_cases h4 : dt_k a = 4
    · rw [if_pos h4] at h
      cases h
      obtain ⟨f, x, y, z, rfl⟩ := ct_cs pa.1 la
      refine Or.inl ⟨?_, fun F _ => ?_⟩
      · show ct_sz (ct_nd (6, 0, f.2.2.1, -1) b x .leaf) ≤ _
        rw [ct_sz_nd, ct_sz_nd, ct_sz_lf]; omega
      · show dt_v F (ct_nd (6, 0, f.2.2.1, -1) b x .leaf) ≤ _
        rw [dt_v_n2 (show ¬ (6 : Int32) = 2 by decide), dt_v_nd, dt_v_lf]; omega
    · rw [if_neg h4] at h
      by_cases hk : dt_lk (dt_k a) = true
      · rw [if_pos hk] at h
        cases h
        exact dt_lift_gr pa.1 h2 hk
      · rw [if_neg hk] at h
        by_cases h3 : dt_k a = 3 ∧ dt_sm (C (dt_gn (dt_e a))) = true
        · rw [if_pos h3] at h
          obtain ⟨s1, s2, s3, s4⟩ := dt_sm_of h3.2
          have hco := hC _ s4
          generalize hu : C (dt_gn (dt_e a)) = u at h s1 s2 s3 s4 hco
          cases h
          have hnb := dt_nb_sz hco.1
          refine Or.inl ⟨?_, fun F hF => ?_⟩
          · rw [ct_sz_nd, show ct_sz (dt_cp n u) = ct_sz u from ct_map_sz u]; omega
          · have hz : dt_v F (dt_cp n u) = 0 := by
              have gen : ∀ l : List ct_D, (∀ x, x ∈ l → x.1 = 2 → x.2.2.1 ∈ dt_B u) → dt_vf F (l.map (ct_rd (ct_fr n (dt_B u)))) = 0 := by
                intro l
                induction l with
                | nil => intro _; rfl
                | cons x l ih =>
                  intro hl
                  rw [List.map_cons]
                  show (if x.1 = 2 ∧ F (ct_fr n (dt_B u) x.2.2.1) = true then 1 else 0) + _ = 0
                  rw [ih (fun y hy => hl y (List.mem_cons_of_mem _ hy)), if_neg]
                  intro hc
                  have hb := hl x List.mem_cons_self hc.1
                  have h1 := hF _ hc.2
                  have h3 := ct_ix_lt hb
                  unfold dt_nb at hnb
                  rw [dt_fr_in hb, cp_tI (by omega)] at h1
                  omega
              unfold dt_v dt_cp
              rw [ct_map_fl]
              exact gen _ (ct_co_cl hco)
            rw [dt_v_n2 h2, hz]; omega
        · rw [if_neg h3] at h; cases h
  rw [if_neg k5] at h
  by_cases k6 : e.1 = 6
  · rw [if_pos k6] at h
    obtain ⟨la, lb, lc⟩ := ct_q2 hw.1 (Or.inr (Or.inl k6))
    unfold dt_le at h
    by_cases h0 : ct_cn e.2.2.1 (ct_fl b) = 0
    · rw [if_pos h0] at h
      cases h
      exact Or.inl ⟨by omega, fun F _ => by omega⟩
    · rw [if_neg h0] at h
      by_cases h1 : dt_at (dt_k a) = true ∨ (ct_cn e.2.2.1 (ct_fl b) = 1 ∧ ct_cw e.2.2.1 b = 0) ∨ (dt_k a = 4 ∧ ct_sz a ≤ 6)
      · rw [if_pos h1] at h
        have h' := Option.some.inj h
        refine Or.inr ⟨k6, la, (congrArg Prod.fst h').symm, h0, ?_⟩
        rcases h1 with h1 | h1 | h1
        · exact Or.inl (dt_at_sz pa.1 h1)
        · exact Or.inr (Or.inl h1.1)
        · exact Or.inr (Or.inr h1.2)
      · rw [if_neg h1] at h; cases h
  rw [if_neg k6] at h
  by_cases k12 : e.1 = 12
  · rw [if_pos k12] at h
    obtain ⟨la, lb, lc⟩ := ct_q3 hw.1 (Or.inl k12)
    have h2 : ¬ e.1 = 2 := by rw [k12]; decide
    unfold dt_ma at h
    by_cases h10 : dt_k a = 10
    · rw [if_pos h10] at h
      cases h
      exact Or.inl ⟨by omega, fun F _ => by omega⟩
    · rw [if_neg h10] at h
      by_cases h11 : dt_k a = 11
      · rw [if_pos h11] at h
        cases h
        obtain ⟨f, x, y, z, rfl⟩ := ct_cs pa.1 la
        refine Or.inl ⟨?_, fun F _ => ?_⟩
        · show ct_sz (ct_nd (6, 0, e.2.2.1, -1) x (ct_nd (6, 0, e.2.2.2, -1) y c .leaf) .leaf) ≤ _
          rw [ct_sz_nd, ct_sz_nd, ct_sz_nd, ct_sz_lf]; omega
        · show dt_v F (ct_nd (6, 0, e.2.2.1, -1) x (ct_nd (6, 0, e.2.2.2, -1) y c .leaf) .leaf) ≤ _
          rw [dt_v_n2 (show ¬ (6 : Int32) = 2 by decide), dt_v_n2 (show ¬ (6 : Int32) = 2 by decide), dt_v_nd, dt_v_lf]; omega
      · rw [if_neg h11] at h
        by_cases hk : dt_lk (dt_k a) = true
        · rw [if_pos hk] at h
          cases h
          exact dt_lift_gr pa.1 h2 hk
        · rw [if_neg hk] at h; cases h
  rw [if_neg k12] at h
  by_cases k13 : e.1 = 13
  · rw [if_pos k13] at h
    have h2 : ¬ e.1 = 2 := by rw [k13]; decide
    unfold dt_te at h
    by_cases h1 : dt_k a = 1
    · rw [if_pos h1] at h
      cases h
      split
      · exact Or.inl ⟨by omega, fun F _ => by omega⟩
      · exact Or.inl ⟨by omega, fun F _ => by omega⟩
    · rw [if_neg h1] at h
      by_cases hk : dt_lk (dt_k a) = true
      · rw [if_pos hk] at h
        cases h
        exact dt_lift_gr pa.1 h2 hk
      · rw [if_neg hk] at h; cases h
  rw [if_neg k13] at h
  by_cases k9 : e.1 = 9
  · rw [if_pos k9] at h
    unfold dt_pr at h
    by_cases h1 : dt_k a = 1 ∧ dt_k b = 1
    · rw [if_pos h1] at h
      cases h
      refine Or.inl ⟨by rw [ct_sz_nd, ct_sz_lf]; omega, fun F _ => ?_⟩
      rw [dt_v_n2 (show ¬ (1 : Int32) = 2 by decide), dt_v_lf]; omega
    · rw [if_neg h1] at h; cases h
  rw [if_neg k9] at h
  cases h
theorem dt_dn_gr (hC : dt_C C) (hn : n < 2000000000) (hw : dt_w (ct_nd e a b c)) (h : dt_dn C R nq p n e a b c = some (t2, m)) : dt_gr n e a b c t2 := by
  obtain ⟨p1, p2, pa, pb, pc⟩ := dt_w_nd hw
  unfold dt_dn at h
  by_cases h0 : p = 0
  · rw [if_pos h0] at h
    exact dt_si_gr hC hn hw h
  rw [if_neg h0] at h
  by_cases h1 : p = 1
  · rw [if_pos h1] at h
    unfold dt_fi at h
    by_cases h1 : e.1 = 6 ∧ (dt_k b = 12 ∨ dt_k b = 13) ∧ ct_cn e.2.2.1 (ct_fl (dt_a b)) = 0
    · rw [if_pos h1] at h
      obtain ⟨he, hk, _⟩ := h1
      obtain ⟨la, lb, lc⟩ := ct_q2 hw.1 (Or.inr (Or.inl he))
      have he2 : ¬ e.1 = 2 := by rw [he]; decide
      obtain ⟨f, x, y, z, rfl⟩ := ct_cs pb.1 lb
      have hf2 : ¬ f.1 = 2 := fun hc => by
        have hk' : f.1 = 12 ∨ f.1 = 13 := hk
        rw [hc] at hk'; exact absurd hk' (by decide)
      change (if 0 < ct_cn e.2.2.1 (ct_fl y) then (if 0 < ct_cn e.2.2.1 (ct_fl z) then none else some (ct_nd f x (ct_nd e a y .leaf) z, n)) else (if 0 < ct_cn e.2.2.1 (ct_fl z) then some (ct_nd f x y (ct_nd e a z .leaf), n) else none)) = some (t2, m) at h
      split at h
      · split at h
        · cases h
        · cases h
          refine Or.inl ⟨by rw [ct_sz_nd, ct_sz_nd, ct_sz_nd, ct_sz_lf]; omega, fun F _ => ?_⟩
          rw [dt_v_n2 hf2, dt_v_n2 he2, dt_v_n2 hf2, dt_v_lf]; omega
      · split at h
        · cases h
          refine Or.inl ⟨by rw [ct_sz_nd, ct_sz_nd, ct_sz_nd, ct_sz_lf]; omega, fun F _ => ?_⟩
          rw [dt_v_n2 hf2, dt_v_n2 he2, dt_v_n2 hf2, dt_v_lf]; omega
        · cases h
    · rw [if_neg h1] at h; cases h
  rw [if_neg h1] at h
  by_cases h2 : p = 2
  · rw [if_pos h2] at h
    unfold dt_fo at h
    by_cases h1 : e.1 = 4 ∧ dt_k a = 6 ∧ ct_cn e.2.2.1 (ct_fl (dt_a a)) = 0 ∧ ¬ dt_at (dt_k (dt_a a)) = true ∧ ¬ dt_k (dt_a a) = 4
    · rw [if_pos h1] at h
      cases h
      exact dt_lift_gr pa.1 (by rw [h1.1]; decide) (by rw [h1.2.1]; decide)
    · rw [if_neg h1] at h; cases h
  rw [if_neg h2] at h
  by_cases h3 : p = 3
  · rw [if_pos h3] at h
    unfold dt_ry at h
    by_cases h1 : e.1 = 6 ∧ dt_k b = 4 ∧ (dt_k a = 1 ∨ dt_k a = 2 ∨ dt_k a = 4)
    · rw [if_pos h1] at h
      cases h
      obtain ⟨he, hk, _⟩ := h1
      obtain ⟨la, lb, lc⟩ := ct_q2 hw.1 (Or.inr (Or.inl he))
      have he2 : ¬ e.1 = 2 := by rw [he]; decide
      obtain ⟨f, x, y, z, rfl⟩ := ct_cs pb.1 lb
      have hk' : f.1 = 4 := hk
      have hf2 : ¬ f.1 = 2 := by rw [hk']; decide
      refine Or.inl ⟨?_, fun F _ => ?_⟩
      · show ct_sz (ct_nd f (ct_nd e a x .leaf) y z) ≤ _
        rw [ct_sz_nd, ct_sz_nd, ct_sz_nd, ct_sz_lf]; omega
      · show dt_v F (ct_nd f (ct_nd e a x .leaf) y z) ≤ _
        rw [dt_v_n2 hf2, dt_v_n2 he2, dt_v_n2 hf2, dt_v_lf]; omega
    · rw [if_neg h1] at h; cases h
  rw [if_neg h3] at h
  by_cases h4 : p = 4
  · rw [if_pos h4] at h
    unfold dt_sr at h
    split at h
    · cases h
      refine Or.inl ⟨by rw [ct_sz_nd, ct_sz_lf]; omega, fun F _ => ?_⟩
      rw [dt_v_n2 (show ¬ (8 : Int32) = 2 by decide), dt_v_lf]; omega
    · cases h
  rw [if_neg h4] at h
  unfold dt_ru at h
  by_cases h1 : e.1 = 5 ∧ dt_k a = 3 ∧ dt_k b = 5 ∧ dt_k (dt_a b) = 3
  · rw [if_pos h1] at h
    split at h
    · cases h
      have he2 : ¬ e.1 = 2 := by rw [h1.1]; decide
      obtain ⟨la, lb, lc⟩ := ct_q2 hw.1 (Or.inl h1.1)
      obtain ⟨f, x, y, z, rfl⟩ := ct_cs pb.1 lb
      refine Or.inl ⟨?_, fun F _ => ?_⟩
      · show ct_sz (ct_nd e _ y .leaf) ≤ _
        rw [ct_sz_nd, ct_sz_nd, ct_sz_nd, ct_sz_lf]; omega
      · show dt_v F (ct_nd e _ y .leaf) ≤ _
        rw [dt_v_n2 he2, dt_v_n2 (show ¬ (3 : Int32) = 2 by decide), dt_v_nd, dt_v_lf]; omega
    · cases h
  · rw [if_neg h1] at h; cases h
end DT94
