/-! ## 37 the order of binding is what the class counts -/
def ct_ob (e : ct_D) : List Int32 := if e.1 = 12 then [e.2.2.1, e.2.2.2] else if e.1 = 4 ∨ e.1 = 6 ∨ e.1 = 7 ∨ e.1 = 8 then [e.2.2.1] else []
/-- the variables that a row binds -/
def ct_bl : List ct_D → List Int32
  | [] => []
  | e :: l => ct_ob e ++ ct_bl l
theorem ct_bl_app {l2 : List ct_D} : ∀ l, ct_bl (l ++ l2) = ct_bl l ++ ct_bl l2
  | [] => rfl
  | e :: l => by
    show ct_ob e ++ ct_bl (l ++ l2) = (ct_ob e ++ ct_bl l) ++ ct_bl l2
    rw [ct_bl_app l, List.append_assoc]
theorem ct_bo_perm1 {e : ct_D} {a b c : ct_T} : (ct_bo (ct_nd e a b c)).Perm (ct_ob e ++ (ct_bo a ++ (ct_bo b ++ ct_bo c))) := by
  rw [ct_bo_nd]
  unfold ct_ob
  by_cases h3 : e.1 = 12
  · rw [if_neg (fun hc => by rcases hc with hc | hc <;> (rw [h3] at hc; exact absurd hc (by decide))), if_neg (fun hc => by rcases hc with hc | hc <;> (rw [h3] at hc; exact absurd hc (by decide))), if_pos h3, if_pos h3, ← List.append_assoc, ← List.append_assoc (ct_bo a)]
    exact (List.perm_middle).trans (List.Perm.cons _ List.perm_middle)
  · rw [if_neg h3, if_neg h3]
    by_cases h1 : e.1 = 4 ∨ e.1 = 7
    · rw [if_pos h1, if_pos (by rcases h1 with h1 | h1; exact Or.inl h1; exact Or.inr (Or.inr (Or.inl h1)))]
      exact List.Perm.refl _
    · rw [if_neg h1]
      by_cases h2 : e.1 = 6 ∨ e.1 = 8
      · rw [if_pos h2, if_pos (by rcases h2 with h1 | h1; exact Or.inr (Or.inl h1); exact Or.inr (Or.inr (Or.inr h1)))]
        exact List.perm_middle
      · rw [if_neg h2, if_neg (fun hc => by
          rcases hc with hc | hc | hc | hc
          · exact h1 (Or.inl hc)
          · exact h2 (Or.inl hc)
          · exact h1 (Or.inr hc)
          · exact h2 (Or.inr hc))]
        exact List.Perm.refl _
theorem ct_bo_perm : ∀ t, ct_wf t → (ct_bo t).Perm (ct_bl (ct_fl t)) :=
  ct_ind (List.Perm.refl _) (fun e a b c _ iha ihb ihc => by
    rw [ct_fl_nd]
    refine ct_bo_perm1.trans ?_
    show (ct_ob e ++ _).Perm (ct_ob e ++ ct_bl (ct_fl a ++ (ct_fl b ++ ct_fl c)))
    rw [ct_bl_app, ct_bl_app]
    exact List.Perm.append_left _ (iha.append (ihb.append ihc)))
theorem ct_nodup_nd {e : ct_D} {a b c : ct_T} (h : (ct_bo (ct_nd e a b c)).Nodup) : (ct_ob e).Nodup ∧ (ct_bo a).Nodup ∧ (ct_bo b).Nodup ∧ (ct_bo c).Nodup ∧ (∀ x, x ∈ ct_ob e → ¬ x ∈ ct_bo a ∧ ¬ x ∈ ct_bo b ∧ ¬ x ∈ ct_bo c) ∧ (∀ x, x ∈ ct_bo a → ¬ x ∈ ct_bo b ∧ ¬ x ∈ ct_bo c) ∧ (∀ x, x ∈ ct_bo b → ¬ x ∈ ct_bo c) := by
  rw [ct_bo_perm1.nodup_iff, List.nodup_append, List.nodup_append, List.nodup_append] at h
  obtain ⟨h1, ⟨h2, ⟨h3, h4, h5⟩, h6⟩, h7⟩ := h
  refine ⟨h1, h2, h3, h4, fun x hx => ⟨fun hc => ?_, fun hc => ?_, fun hc => ?_⟩, fun x hx => ⟨fun hc => ?_, fun hc => ?_⟩, fun x hx hc => ?_⟩
  · exact h7 x hx x (List.mem_append_left _ hc) rfl
  · exact h7 x hx x (List.mem_append_right _ (List.mem_append_left _ hc)) rfl
  · exact h7 x hx x (List.mem_append_right _ (List.mem_append_right _ hc)) rfl
  · exact h6 x hx x (List.mem_append_left _ hc) rfl
  · exact h6 x hx x (List.mem_append_right _ hc) rfl
  · exact h5 x hx x hc rfl
theorem ct_ix_cons {x y : Int32} {l : List Int32} : ct_ix x (y :: l) = if y = x then 0 else 1 + ct_ix x l := rfl
theorem ct_ix_a {e : ct_D} {a b c : ct_T} (hd : (ct_bo (ct_nd e a b c)).Nodup) {x : Int32} (hx : x ∈ ct_bo a) : ct_ix x (ct_bo (ct_nd e a b c)) = (if e.1 = 4 ∨ e.1 = 7 then 1 else 0) + ct_ix x (ct_bo a) := by
  obtain ⟨d0, d1, d2, d3, d4, d5, d6⟩ := ct_nodup_nd hd
  rw [ct_bo_nd]
  by_cases h1 : e.1 = 4 ∨ e.1 = 7
  · rw [if_pos h1, if_pos h1, ct_ix_cons, if_neg, ct_ix_in hx]
    intro hc
    have h2 : e.2.2.1 ∈ ct_ob e := by
      unfold ct_ob
      rw [if_neg (fun hc => by rcases h1 with h1 | h1 <;> (rw [h1] at hc; exact absurd hc (by decide))), if_pos (by rcases h1 with h1 | h1; exact Or.inl h1; exact Or.inr (Or.inr (Or.inl h1)))]
      exact List.mem_cons_self
    exact (d4 _ h2).1 (hc ▸ hx)
  · rw [if_neg h1, if_neg h1, Nat.zero_add]
    split
    · exact ct_ix_in hx
    · split <;> exact ct_ix_in hx
theorem ct_ob_v {e : ct_D} (h : e.1 = 4 ∨ e.1 = 6 ∨ e.1 = 7 ∨ e.1 = 8 ∨ e.1 = 12) : e.2.2.1 ∈ ct_ob e := by
  unfold ct_ob
  split
  · exact List.mem_cons_self
  · next hn =>
    rw [if_pos (by rcases h with h | h | h | h | h; exact Or.inl h; exact Or.inr (Or.inl h); exact Or.inr (Or.inr (Or.inl h)); exact Or.inr (Or.inr (Or.inr h)); exact absurd h hn)]
    exact List.mem_cons_self
theorem ct_ob_w {e : ct_D} (h : e.1 = 12) : e.2.2.2 ∈ ct_ob e := by
  unfold ct_ob
  rw [if_pos h]
  exact List.mem_cons_of_mem _ List.mem_cons_self
theorem ct_ix_b {e : ct_D} {a b c : ct_T} (hd : (ct_bo (ct_nd e a b c)).Nodup) {x : Int32} (hx : x ∈ ct_bo b) : ct_ix x (ct_bo (ct_nd e a b c)) = (if (e.1 = 4 ∨ e.1 = 7) ∨ (e.1 = 6 ∨ e.1 = 8) then 1 else 0) + ((ct_bo a).length + ct_ix x (ct_bo b)) := by
  obtain ⟨d0, d1, d2, d3, d4, d5, d6⟩ := ct_nodup_nd hd
  have hna : ¬ x ∈ ct_bo a := fun hc => (d5 x hc).1 hx
  rw [ct_bo_nd]
  by_cases h1 : e.1 = 4 ∨ e.1 = 7
  · rw [if_pos h1, if_pos (Or.inl h1), ct_ix_cons, if_neg, ct_ix_no hna, ct_ix_in hx]
    intro hc
    exact (d4 _ (ct_ob_v (by rcases h1 with h1 | h1; exact Or.inl h1; exact Or.inr (Or.inr (Or.inl h1))))).2.1 (hc ▸ hx)
  · rw [if_neg h1]
    by_cases h2 : e.1 = 6 ∨ e.1 = 8
    · rw [if_pos h2, if_pos (Or.inr h2), ct_ix_no hna, ct_ix_cons, if_neg, ct_ix_in hx]
      · omega
      · intro hc
        exact (d4 _ (ct_ob_v (by rcases h2 with h1 | h1; exact Or.inr (Or.inl h1); exact Or.inr (Or.inr (Or.inr (Or.inl h1)))))).2.1 (hc ▸ hx)
    · rw [if_neg h2, if_neg (c := (e.1 = 4 ∨ e.1 = 7) ∨ e.1 = 6 ∨ e.1 = 8) (fun hc => by rcases hc with hc | hc; exact h1 hc; exact h2 hc), Nat.zero_add]
      split
      · rw [ct_ix_no hna, ct_ix_in hx]
      · rw [ct_ix_no hna, ct_ix_in hx]
theorem ct_ix_c {e : ct_D} {a b c : ct_T} (hn : ct_nw e) (hd : (ct_bo (ct_nd e a b c)).Nodup) {x : Int32} (hx : x ∈ ct_bo c) : ct_ix x (ct_bo (ct_nd e a b c)) = (if ct_ib e = true then ct_wt e else 0) + ((ct_bo a).length + ((ct_bo b).length + ct_ix x (ct_bo c))) := by
  obtain ⟨d0, d1, d2, d3, d4, d5, d6⟩ := ct_nodup_nd hd
  have hna : ¬ x ∈ ct_bo a := fun hc => (d5 x hc).2 hx
  have hnb : ¬ x ∈ ct_bo b := fun hc => d6 x hc hx
  have hi := ct_ib_of hn
  have hv : e.1 = 4 ∨ e.1 = 6 ∨ e.1 = 7 ∨ e.1 = 8 ∨ e.1 = 12 → ¬ e.2.2.1 = x := fun h hc => (d4 _ (ct_ob_v h)).2.2 (hc ▸ hx)
  rw [ct_bo_nd]
  unfold ct_wt
  by_cases h1 : e.1 = 4 ∨ e.1 = 7
  · have h9 : e.1 = 4 ∨ e.1 = 6 ∨ e.1 = 7 ∨ e.1 = 8 ∨ e.1 = 12 := by rcases h1 with h1 | h1; exact Or.inl h1; exact Or.inr (Or.inr (Or.inl h1))
    rw [if_pos h1, if_pos (hi.mpr h9), if_neg (fun hc => by rcases h1 with h1 | h1 <;> (rw [h1] at hc; exact absurd hc (by decide))), ct_ix_cons, if_neg (hv h9), ct_ix_no hna, ct_ix_no hnb]
  · rw [if_neg h1]
    by_cases h2 : e.1 = 6 ∨ e.1 = 8
    · have h9 : e.1 = 4 ∨ e.1 = 6 ∨ e.1 = 7 ∨ e.1 = 8 ∨ e.1 = 12 := by rcases h2 with h1 | h1; exact Or.inr (Or.inl h1); exact Or.inr (Or.inr (Or.inr (Or.inl h1)))
      rw [if_pos h2, if_pos (hi.mpr h9), if_neg (fun hc => by rcases h2 with h1 | h1 <;> (rw [h1] at hc; exact absurd hc (by decide))), ct_ix_no hna, ct_ix_cons, if_neg (hv h9), ct_ix_no hnb]
      omega
    · rw [if_neg h2]
      by_cases h3 : e.1 = 12
      · rw [if_pos h3, if_pos (hi.mpr (Or.inr (Or.inr (Or.inr (Or.inr h3))))), if_pos h3, ct_ix_no hna, ct_ix_no hnb, ct_ix_cons, if_neg (hv (Or.inr (Or.inr (Or.inr (Or.inr h3))))), ct_ix_cons, if_neg (show ¬ e.2.2.2 = x from fun hc => (d4 _ (ct_ob_w h3)).2.2 (hc ▸ hx))]
        omega
      · rw [if_neg h3, if_neg (fun hc => by
          rcases hi.mp hc with hc | hc | hc | hc | hc
          · exact h1 (Or.inl hc)
          · exact h2 (Or.inl hc)
          · exact h1 (Or.inr hc)
          · exact h2 (Or.inr hc)
          · exact h3 hc), ct_ix_no hna, ct_ix_no hnb, Nat.zero_add]
theorem ct_bo_mem {e : ct_D} {a b c : ct_T} {x : Int32} : x ∈ ct_bo (ct_nd e a b c) ↔ x ∈ ct_ob e ∨ x ∈ ct_bo a ∨ x ∈ ct_bo b ∨ x ∈ ct_bo c := by
  rw [ct_bo_perm1.mem_iff, List.mem_append, List.mem_append, List.mem_append]
theorem ct_cb_ix : ∀ t, ct_wf t → ∀ r, ct_nws t → (ct_bo t).Nodup → ∀ (i : Nat) (e : ct_D) (m : Nat), (ct_fl t)[i]? = some e → (ct_mm r t)[i]? = some m → ct_ib e = true → ct_cb m (ct_fl t) (ct_mm r t) = ct_ix e.2.2.1 (ct_bo t) ∧ e.2.2.1 ∈ ct_bo t ∧ (e.1 = 12 → ct_cb m (ct_fl t) (ct_mm r t) + 1 = ct_ix e.2.2.2 (ct_bo t) ∧ e.2.2.2 ∈ ct_bo t) :=
  ct_ind (fun r _ _ i e m h _ _ => by simp [ct_fl] at h) (fun e a b c hw iha ihb ihc r hn hd i e2 m h1 h2 h3 => by
    obtain ⟨n0, n1, n2, n3⟩ := ct_nws_nd hn
    obtain ⟨w1, w2, w3, w4, w5, w6, w7⟩ := ct_wf_nd hw
    obtain ⟨d0, d1, d2, d3, d4, d5, d6⟩ := ct_nodup_nd hd
    have hmo := ct_mo_b (r := r) hw
    have hi := ct_ib_of n0
    have ba := fun n hn => ct_mm_b a w5 (r + 1) n hn
    have bb := fun n hn => ct_mm_b b w6 (r + 1 + ct_sz a) n hn
    have bc := fun n hn => ct_mm_b c w7 (r + 1 + ct_sz a + ct_sz b) n hn
    rw [ct_cb_nd]
    rw [ct_fl_nd] at h1
    rw [ct_mm_nd] at h2
    rcases i with _ | i
    · rw [List.getElem?_cons_zero] at h1 h2
      cases h1
      cases h2
      rw [if_neg (fun hc => by omega), Nat.zero_add]
      have h9 := hi.mp h3
      by_cases q1 : e.1 = 4 ∨ e.1 = 7
      · have e0 : ct_mo r e a b = 2 * r + 1 := by
          unfold ct_mo
          rw [if_neg (fun hc => by rcases q1 with q1 | q1 <;> rcases hc with hc | hc <;> (rw [q1] at hc; exact absurd hc (by decide))), if_neg (fun hc => by rcases q1 with q1 | q1 <;> (rw [q1] at hc; exact absurd hc (by decide)))]
        rw [ct_cb_lo (fun k hk => by have := ba k hk; omega), ct_cb_lo (fun k hk => by have := bb k hk; omega), ct_cb_lo (fun k hk => by have := bc k hk; omega)]
        refine ⟨?_, ct_bo_mem.mpr (Or.inl (ct_ob_v h9)), fun hc => by rcases q1 with q1 | q1 <;> (rw [q1] at hc; exact absurd hc (by decide))⟩
        rw [ct_bo_nd, if_pos q1, ct_ix_cons, if_pos rfl]
      · by_cases q2 : e.1 = 6 ∨ e.1 = 8
        · have e0 : ct_mo r e a b = 2 * (r + 1 + ct_sz a) := by unfold ct_mo; rw [if_pos q2]
          rw [ct_cb_hi a w5 _ n1 (by omega), ct_cb_lo (fun k hk => by have := bb k hk; omega), ct_cb_lo (fun k hk => by have := bc k hk; omega)]
          refine ⟨?_, ct_bo_mem.mpr (Or.inl (ct_ob_v h9)), fun hc => by rcases q2 with q1 | q1 <;> (rw [q1] at hc; exact absurd hc (by decide))⟩
          rw [ct_bo_nd, if_neg q1, if_pos q2, ct_ix_no (d4 _ (ct_ob_v h9)).1, ct_ix_cons, if_pos rfl]
        · have q3 : e.1 = 12 := by
            rcases h9 with h | h | h | h | h
            · exact absurd (Or.inl h) q1
            · exact absurd (Or.inl h) q2
            · exact absurd (Or.inr h) q1
            · exact absurd (Or.inr h) q2
            · exact h
          have e0 : ct_mo r e a b = 2 * (r + 1 + ct_sz a + ct_sz b) := by unfold ct_mo; rw [if_neg q2, if_pos q3]
          rw [ct_cb_hi a w5 _ n1 (by omega), ct_cb_hi b w6 _ n2 (by omega), ct_cb_lo (fun k hk => by have := bc k hk; omega)]
          have k1 : ct_ix e.2.2.1 (ct_bo (ct_nd e a b c)) = (ct_bo a).length + (ct_bo b).length := by
            rw [ct_bo_nd, if_neg q1, if_neg q2, if_pos q3, ct_ix_no (d4 _ (ct_ob_v h9)).1, ct_ix_no (d4 _ (ct_ob_v h9)).2.1, ct_ix_cons, if_pos rfl]; rfl
          have k2 : ct_ix e.2.2.2 (ct_bo (ct_nd e a b c)) = (ct_bo a).length + (ct_bo b).length + 1 := by
            rw [ct_bo_nd, if_neg q1, if_neg q2, if_pos q3, ct_ix_no (d4 _ (ct_ob_w q3)).1, ct_ix_no (d4 _ (ct_ob_w q3)).2.1, ct_ix_cons, if_neg (n0.2.1 q3).2.2, ct_ix_cons, if_pos rfl]; omega
          exact ⟨by rw [k1]; omega, ct_bo_mem.mpr (Or.inl (ct_ob_v h9)), fun _ => ⟨by rw [k2]; omega, ct_bo_mem.mpr (Or.inl (ct_ob_w q3))⟩⟩
    · rw [List.getElem?_cons_succ] at h1 h2
      rw [List.getElem?_append, ct_fl_len] at h1
      rw [List.getElem?_append, ct_mm_len] at h2
      by_cases g1 : i < ct_sz a
      · rw [if_pos g1] at h1 h2
        obtain ⟨j1, j2, j3⟩ := iha (r + 1) n1 d1 i e2 m h1 h2 h3
        have hb := ba m (List.mem_of_getElem? h2)
        have own : (if ct_ib e = true ∧ ct_mo r e a b < m then ct_wt e else 0) = if e.1 = 4 ∨ e.1 = 7 then 1 else 0 := by
          by_cases q1 : e.1 = 4 ∨ e.1 = 7
          · rw [if_pos q1, if_pos]
            · unfold ct_wt
              rw [if_neg (fun hc => by rcases q1 with q1 | q1 <;> (rw [q1] at hc; exact absurd hc (by decide)))]
            · refine ⟨hi.mpr (by rcases q1 with h1 | h1; exact Or.inl h1; exact Or.inr (Or.inr (Or.inl h1))), ?_⟩
              unfold ct_mo
              rw [if_neg (fun hc => by rcases q1 with q1 | q1 <;> rcases hc with hc | hc <;> (rw [q1] at hc; exact absurd hc (by decide))), if_neg (fun hc => by rcases q1 with q1 | q1 <;> (rw [q1] at hc; exact absurd hc (by decide)))]
              omega
          · rw [if_neg q1, if_neg]
            intro hc
            have h9 := hi.mp hc.1
            have h8 := hc.2
            unfold ct_mo at h8
            split at h8
            · omega
            · next q2 =>
              split at h8
              · omega
              · next q3 =>
                rcases h9 with h | h | h | h | h
                · exact q1 (Or.inl h)
                · exact q2 (Or.inl h)
                · exact q1 (Or.inr h)
                · exact q2 (Or.inr h)
                · exact q3 h
        rw [own, ct_cb_lo (l := ct_fl b) (fun k hk => by have := bb k hk; omega), ct_cb_lo (l := ct_fl c) (fun k hk => by have := bc k hk; omega), j1, ct_ix_a hd j2]
        refine ⟨by omega, ct_bo_mem.mpr (Or.inr (Or.inl j2)), fun hc => ?_⟩
        obtain ⟨j4, j5⟩ := j3 hc
        rw [ct_ix_a hd j5]
        exact ⟨by omega, ct_bo_mem.mpr (Or.inr (Or.inl j5))⟩
      · rw [if_neg g1] at h1 h2
        rw [List.getElem?_append, ct_fl_len] at h1
        rw [List.getElem?_append, ct_mm_len] at h2
        by_cases g2 : i - ct_sz a < ct_sz b
        · rw [if_pos g2] at h1 h2
          obtain ⟨j1, j2, j3⟩ := ihb _ n2 d2 _ e2 m h1 h2 h3
          have hb := bb m (List.mem_of_getElem? h2)
          have own : (if ct_ib e = true ∧ ct_mo r e a b < m then ct_wt e else 0) = if (e.1 = 4 ∨ e.1 = 7) ∨ (e.1 = 6 ∨ e.1 = 8) then 1 else 0 := by
            by_cases q3 : e.1 = 12
            · rw [if_neg (c := (e.1 = 4 ∨ e.1 = 7) ∨ (e.1 = 6 ∨ e.1 = 8)) (fun hc => by rcases hc with (hc | hc) | (hc | hc) <;> (rw [q3] at hc; exact absurd hc (by decide))), if_neg]
              intro hc
              have h8 := hc.2
              unfold ct_mo at h8
              rw [if_neg (fun hc => by rcases hc with hc | hc <;> (rw [q3] at hc; exact absurd hc (by decide))), if_pos q3] at h8
              omega
            · by_cases q1 : (e.1 = 4 ∨ e.1 = 7) ∨ (e.1 = 6 ∨ e.1 = 8)
              · rw [if_pos q1, if_pos]
                · unfold ct_wt; rw [if_neg q3]
                · refine ⟨hi.mpr (by rcases q1 with (h1 | h1) | (h1 | h1); exact Or.inl h1; exact Or.inr (Or.inr (Or.inl h1)); exact Or.inr (Or.inl h1); exact Or.inr (Or.inr (Or.inr (Or.inl h1)))), ?_⟩
                  unfold ct_mo
                  rw [if_neg q3]
                  split <;> omega
              · rw [if_neg q1, if_neg]
                intro hc
                rcases hi.mp hc.1 with h | h | h | h | h
                · exact q1 (Or.inl (Or.inl h))
                · exact q1 (Or.inr (Or.inl h))
                · exact q1 (Or.inl (Or.inr h))
                · exact q1 (Or.inr (Or.inr h))
                · exact q3 h
          rw [own, ct_cb_hi a w5 _ n1 (by omega), ct_cb_lo (l := ct_fl c) (fun k hk => by have := bc k hk; omega), j1, ct_ix_b hd j2]
          refine ⟨by omega, ct_bo_mem.mpr (Or.inr (Or.inr (Or.inl j2))), fun hc => ?_⟩
          obtain ⟨j4, j5⟩ := j3 hc
          rw [ct_ix_b hd j5]
          exact ⟨by omega, ct_bo_mem.mpr (Or.inr (Or.inr (Or.inl j5)))⟩
        · rw [if_neg g2] at h1 h2
          obtain ⟨j1, j2, j3⟩ := ihc _ n3 d3 _ e2 m h1 h2 h3
          have hb := bc m (List.mem_of_getElem? h2)
          have own : (if ct_ib e = true ∧ ct_mo r e a b < m then ct_wt e else 0) = if ct_ib e = true then ct_wt e else 0 := by
            by_cases q : ct_ib e = true
            · have hm : ct_mo r e a b < m := by
                unfold ct_mo
                split
                · omega
                · split <;> omega
              rw [if_pos q, if_pos ⟨q, hm⟩]
            · rw [if_neg q, if_neg (fun hc => q hc.1)]
          rw [own, ct_cb_hi a w5 _ n1 (by omega), ct_cb_hi b w6 _ n2 (by omega), j1, ct_ix_c n0 hd j2]
          refine ⟨by omega, ct_bo_mem.mpr (Or.inr (Or.inr (Or.inr j2))), fun hc => ?_⟩
          obtain ⟨j4, j5⟩ := j3 hc
          rw [ct_ix_c n0 hd j5]
          exact ⟨by omega, ct_bo_mem.mpr (Or.inr (Or.inr (Or.inr j5)))⟩)
