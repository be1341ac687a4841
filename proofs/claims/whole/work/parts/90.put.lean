/-! ## 90 copies written in place of a variable -/
def dt_i (n m : Nat) (z : Int32) : Nat := if (n : Int) ≤ z.toInt ∧ z.toInt < (m : Int) then 1 else 0
theorem dt_i_add {n m k : Nat} {z : Int32} (h1 : n ≤ m) (h2 : m ≤ k) : dt_i n m z + dt_i m k z = dt_i n k z := by
  unfold dt_i
  by_cases c1 : (n : Int) ≤ z.toInt ∧ z.toInt < (m : Int)
  · rw [if_pos c1, if_neg (by omega), if_pos (by omega)]
  · rw [if_neg c1, Nat.zero_add]
    by_cases c2 : (m : Int) ≤ z.toInt ∧ z.toInt < (k : Int)
    · rw [if_pos c2, if_pos (by omega)]
    · rw [if_neg c2, if_neg (by omega)]
theorem dt_i_z {n : Nat} {z : Int32} : dt_i n n z = 0 := by
  unfold dt_i
  rw [if_neg (by omega)]
theorem dt_i_no {n m : Nat} {z : Int32} (h : z.toInt < (n : Int)) : dt_i n m z = 0 := by
  unfold dt_i
  rw [if_neg (by omega)]
theorem dt_i_le {n m : Nat} {z : Int32} : dt_i n m z ≤ 1 := by
  unfold dt_i
  split <;> omega
theorem dt_i_in {n m : Nat} {z : Int32} (h : 0 < dt_i n m z) : (n : Int) ≤ z.toInt ∧ z.toInt < (m : Int) := by
  unfold dt_i at h
  split at h
  · assumption
  · omega
theorem dt_cp_i {t : ct_T} {n : Nat} (hb : ∀ z, dt_ct z t ≤ 1) (hn : n + dt_nb t < 2147483648) (z : Int32) : dt_ct z (dt_cp n t) ≤ dt_i n (n + dt_nb t) z := by
  obtain ⟨h1, h2⟩ := dt_cp_ct hb hn z
  by_cases h : 0 < dt_ct z (dt_cp n t)
  · unfold dt_i
    rw [if_pos (h2 h)]
    exact h1
  · omega
theorem dt_bd_mo {n m : Nat} {t : ct_T} (h : n ≤ m) (hb : dt_bd n t) : dt_bd m t := ⟨hb.1, fun z hz => by have := hb.2 z hz; omega⟩
theorem dt_gc_mo {n m : Nat} {G : ct_G} {t : ct_T} (h : n ≤ m) (hg : dt_gc n G t) : dt_gc m G t := fun x hx => by have := hg x hx; omega
theorem dt_nb_sz {t : ct_T} (hw : ct_wf t) : dt_nb t ≤ ct_sz t - 1 := ct_bl_sz t hw
theorem dt_oc_n {z : Int32} {e : ct_D} (h : ¬ (e.1 = 4 ∨ e.1 = 6 ∨ e.1 = 7 ∨ e.1 = 8)) (h2 : ¬ e.1 = 12) : dt_oc z e = 0 := by
  unfold dt_oc ct_ob
  rw [if_neg h2, if_neg h]
  rfl
theorem dt_oc_4 {z : Int32} {e : ct_D} (h : e.1 = 4 ∨ e.1 = 6 ∨ e.1 = 7 ∨ e.1 = 8) : dt_oc z e = [e.2.2.1].count z := by
  unfold dt_oc ct_ob
  rw [if_neg (fun hc => by rw [hc] at h; rcases h with h | h | h | h <;> exact absurd h (by decide)), if_pos h]
theorem dt_oc_12 {z : Int32} {e : ct_D} (h : e.1 = 12) : dt_oc z e = [e.2.2.1].count z + [e.2.2.2].count z := by
  unfold dt_oc ct_ob
  rw [if_pos h, ← List.count_append]
  rfl
/-- what putting does -/
theorem dt_put_ok {v : ct_T} {x : Int32} {n0 : Nat} {Gv : ct_G} (hv : dt_w v) (hvn : ¬ v = .leaf) (hvb : dt_bd n0 v) (hvg : dt_gc n0 Gv v) (hvl : ct_lx Gv v) : ∀ b, ct_wf b → ∀ (n : Nat) (G H : ct_G), n0 ≤ n → dt_w b → ct_lx G b → (∀ y, G y → H y ∨ y = x) → (∀ y, Gv y → H y) → n + ct_cn x (ct_fl b) * dt_nb v < 2147483648 →
    (dt_put v x b n).2 = n + ct_cn x (ct_fl b) * dt_nb v ∧ dt_w (dt_put v x b n).1 ∧ ((dt_put v x b n).1 = .leaf ↔ b = .leaf) ∧ ct_lx H (dt_put v x b n).1 ∧ (∀ z, dt_ct z (dt_put v x b n).1 ≤ dt_ct z b + dt_i n (dt_put v x b n).2 z) ∧ (dt_put v x b n).2 ≤ n + ct_sz (dt_put v x b n).1 ∧ ct_sz (dt_put v x b n).1 + ct_cn x (ct_fl b) = ct_sz b + ct_cn x (ct_fl b) * ct_sz v :=
  ct_ind (fun n G H _ _ _ _ _ _ => by
    rw [dt_put_lf]
    refine ⟨?_, dt_w_lf, Iff.rfl, trivial, fun z => by rw [dt_ct_lf]; omega, by omega, ?_⟩
    · show n = n + 0 * _
      omega
    · show ct_sz .leaf + 0 = ct_sz .leaf + 0 * _
      omega) (fun e a b c hw iha ihb ihc n G H h0 hwb hl hGH hGv hlt => by
    obtain ⟨p1, p2, pa, pb, pc⟩ := dt_w_nd hwb
    have hcn := ct_cn_nd (x := x) (e := e) (a := a) (b := b) (c := c)
    rw [dt_put_nd]
    by_cases h2 : e.1 = 2
    · obtain ⟨rfl, rfl, rfl⟩ := ct_leafs hw h2
      have hz : ∀ y, ct_cn y (ct_fl .leaf) = 0 := fun y => rfl
      rw [hz] at hcn
      rw [if_pos h2]
      have hoc : ∀ z, dt_oc z e = 0 := fun z => dt_oc_n (by rw [h2]; decide) (by rw [h2]; decide)
      by_cases hx : e.2.2.1 = x
      · rw [if_pos hx]
        rw [if_pos ⟨h2, hx⟩] at hcn
        have hc1 : ct_cn x (ct_fl (ct_nd e .leaf .leaf .leaf)) = 1 := by omega
        rw [hc1] at hlt ⊢
        have hb' := dt_bd_mo h0 hvb
        have hg' := dt_gc_mo h0 hvg
        have hn' : n + dt_nb v < 2147483648 := by omega
        obtain ⟨c1, c2, c3, c4, c5⟩ := dt_cp_w hv hb' hg' hvl hn'
        refine ⟨by dsimp only; omega, c1, ?_, ct_lx_mono _ c1.1 _ _ hGv c2, fun z => ?_, ?_, ?_⟩
        · exact ⟨fun h => absurd (c3.mp h) hvn, fun h => by cases h⟩
        · dsimp only
          have := dt_cp_i hvb.1 hn' z
          omega
        · dsimp only
          have := dt_nb_sz hv.1
          rw [c4]; omega
        · dsimp only
          rw [c4, ct_sz_nd, ct_sz_lf]; omega
      · rw [if_neg hx]
        rw [if_neg (fun hc => hx hc.2)] at hcn
        have hc0 : ct_cn x (ct_fl (ct_nd e .leaf .leaf .leaf)) = 0 := by omega
        rw [hc0]
        refine ⟨by dsimp only; omega, hwb, Iff.rfl, ?_, fun z => by dsimp only; omega, by dsimp only; omega, by dsimp only; omega⟩
        rw [ct_lx_nd, if_pos h2] at hl ⊢
        rcases hGH _ hl with h | h
        · exact h
        · exact absurd h hx
    · rw [if_neg h2]
      rw [if_neg (fun hc => h2 hc.1), Nat.zero_add] at hcn
      rw [hcn, Nat.add_mul, Nat.add_mul] at hlt ⊢
      rw [Nat.add_mul, Nat.add_mul]
      rw [dt_lx h2] at hl
      obtain ⟨g1, g2, g3⟩ := dt_Gm (e := e) hGH
      obtain ⟨a1, a2, a3, a4, a5, a6, a7⟩ := iha n _ (dt_G1 e H) h0 pa hl.1 g1 (fun y hy => (dt_Gs (hGv y hy)).1) (by omega)
      generalize dt_put v x a n = ra at a1 a2 a3 a4 a5 a6 a7 ⊢
      obtain ⟨ta, na⟩ := ra
      dsimp only at a1 a2 a3 a4 a5 a6 a7 ⊢
      obtain ⟨b1, b2, b3, b4, b5, b6, b7⟩ := ihb na _ (dt_G2 e H) (by omega) pb hl.2.1 g2 (fun y hy => (dt_Gs (hGv y hy)).2.1) (by omega)
      generalize dt_put v x b na = rb at b1 b2 b3 b4 b5 b6 b7 ⊢
      obtain ⟨tb, nb⟩ := rb
      dsimp only at b1 b2 b3 b4 b5 b6 b7 ⊢
      obtain ⟨c1, c2, c3, c4, c5, c6, c7⟩ := ihc nb _ (dt_G3 e H) (by omega) pc hl.2.2 g3 (fun y hy => (dt_Gs (hGv y hy)).2.2) (by omega)
      generalize dt_put v x c nb = rc at c1 c2 c3 c4 c5 c6 c7 ⊢
      obtain ⟨tc, nc⟩ := rc
      dsimp only at c1 c2 c3 c4 c5 c6 c7 ⊢
      refine ⟨by omega, dt_w_re hwb a2 b2 c2 a3 b3 c3, ⟨fun h => (by cases h), fun h => (by cases h)⟩, (dt_lx h2).mpr ⟨a4, b4, c4⟩, fun z => ?_, ?_, ?_⟩
      · have q1 := a5 z
        have q2 := b5 z
        have q3 := c5 z
        have q4 := dt_i_add (n := n) (m := na) (k := nb) (z := z) (by omega) (by omega)
        have q5 := dt_i_add (n := n) (m := nb) (k := nc) (z := z) (by omega) (by omega)
        rw [dt_ct_nd, dt_ct_nd]
        omega
      · rw [ct_sz_nd]; omega
      · rw [ct_sz_nd, ct_sz_nd]; omega)
