/-! ## a41 the law's cases of print and cellsMade; what steps and entered need -/
section CPa41
variable {L : Nat} {xs : Nat → Int32} {d : Nat} {S : cm_S} {K : cm_K}
theorem cr_mr_st (h : cr_mr S) : cr_st S := by
  unfold cr_st
  rcases h with ⟨h1, h2, h3, h4, h5⟩ | ⟨h1, V, st, lim, wc, sh, dd, o, ⟨G, nc, ne, nf, nv, g1, g2, g3⟩, _⟩
  · rw [if_pos h1, h3]
  · rw [if_neg (by rw [h1]; decide), g2.1, g2.2.1]
theorem cr_mr_en (h : cr_mr S) : cr_en S := by
  intro j hj
  rcases h with ⟨h1, h2, h3, h4, h5⟩ | ⟨h1, V, st, lim, wc, sh, dd, o, ⟨G, nc, ne, nf, nv, g1, g2, g3⟩, _⟩
  · rw [if_pos h1, h5 j hj]
  · rw [if_neg (by rw [h1]; decide)]
    exact g2.2.2.2.2.2.2.2.2.2.2 j hj
def cr_ok (S : cm_S) : Prop := S.1 57 6 = 0 ∨ S.1 57 6 = 1 ∨ S.1 57 6 = 2
def cr_okS (S : cm_S) : Prop := ¬ S.1 83 41 = 0 ∧ 0 ≤ (S.1 83 40).toInt ∧ (S.1 83 40).toInt < 3
theorem cr_ok_iff (h : cr_mr S) : (cr_ok S ↔ cr_okS S) ∧ (cr_ok S → S.2 77 3 = S.2 83 71 ∧ S.1 83 41 = 1 ∧ ∃ (V : Nat → ct_T) (st lim wc sh dd o : Nat), dw_fin S S V st lim wc sh dd o ∧ o ≤ 2 ∧ st ≤ lim ∧ lim ≤ 3999 ∧ wc ≤ sh ∧ sh ≤ 20) := by
  unfold cr_ok cr_okS
  rcases h with ⟨h1, h2, h3, h4, h5⟩ | ⟨h1, V, st, lim, wc, sh, dd, o, hf, hb⟩
  · rw [h1, h2]
    exact ⟨⟨fun hx => by rcases hx with hx | hx | hx <;> exact absurd hx (by decide), fun hx => absurd rfl hx.1⟩, fun hx => by rcases hx with hx | hx | hx <;> exact absurd hx (by decide)⟩
  · obtain ⟨G, nc, ne, nf, nv, g1, g2, g3, g4, g5, g6, g7⟩ := id hf
    rw [h1, g5, g6, cp_tI (by omega)]
    have e0 : (Int32.ofNat o = 0 ∨ Int32.ofNat o = 1 ∨ Int32.ofNat o = 2) ↔ o ≤ 2 := by
      constructor
      · intro hx
        rcases hx with hx | hx | hx
        · have := (cp_inj (b := 0) (by omega) (by omega)).mp hx; omega
        · have := (cp_inj (b := 1) (by omega) (by omega)).mp hx; omega
        · have := (cp_inj (b := 2) (by omega) (by omega)).mp hx; omega
      · intro hx
        rcases (by omega : o = 0 ∨ o = 1 ∨ o = 2) with rfl | rfl | rfl
        · exact Or.inl rfl
        · exact Or.inr (Or.inl rfl)
        · exact Or.inr (Or.inr rfl)
    rw [e0]
    exact ⟨⟨fun hx => ⟨by decide, by omega, by omega⟩, fun hx => by omega⟩, fun hx => ⟨g2.2.2.2.2.2.2.2.2.1, rfl, V, st, lim, wc, sh, dd, o, hf, hx, hb⟩⟩
theorem cp_160 (k1 : cr_ok S → K (.inl none) S 0) (k2 : ¬ cr_ok S → K (.inr 2) S 1) : cm_At (am_XX L xs) (d + 1) 160 0 [some (.ref 0), none] [] S K := by
  refine cx_160_0 ?_
  intro x1 h1
  rw [h1]
  exact ⟨fun h => k1 (Or.inl h), fun ha => ⟨fun h => k1 (Or.inr (Or.inl h)), fun hb => ⟨fun h => k1 (Or.inr (Or.inr h)), fun hc => k2 (fun hx => hx.elim ha (fun hy => hy.elim hb hc))⟩⟩⟩
theorem cp_266 (k1 : cr_okS S → K (.inl (some (.int 1))) (cm_wI S 83 75 0) 0) (k2 : ¬ cr_okS S → K (.inl (some (.int 0))) (cm_wI S 83 75 1) 0) : cm_At (am_XX L xs) (d + 2) 266 0 [some (.ref 83)] [] S K := by
  refine cx_266_0 ?_
  intro x1 h1
  rw [h1]
  refine ⟨fun h0 => ?_, fun h0 => ?_⟩
  · refine cp_173 (cp_r1 ?_)
    exact ⟨Or.inl rfl, k2 (fun hc => hc.1 h0)⟩
  · intro x2 h2
    rw [h2]
    refine cp_174k (b := 3) rfl rfl (fun hx => cp_r1 ?_) (fun hx => cp_r1 ?_)
    · refine ⟨fun h => absurd h (by decide), fun _ => ?_⟩
      refine cp_173 (cp_r1 ?_)
      exact ⟨Or.inr rfl, k1 ⟨h0, hx⟩⟩
    · refine ⟨fun _ => ?_, fun h => absurd rfl h⟩
      refine cp_173 (cp_r1 ?_)
      exact ⟨Or.inl rfl, k2 (fun hc => hx hc.2)⟩
end CPa41
section CPa41b
variable {L : Nat} {xs : Nat → Int32} {d n : Nat} {S : cm_S} {K : cm_K} {o5 o6 : Option Value}
theorem cr_print (hmr : cr_mr S) (k : ∀ S2 e o5 o6, e ≤ 1 → cf_W (fun b j => decide (b = 132 ∨ b = 83 ∧ j = 75)) S S2 → cm_At (am_XX L xs) (d + 6) 300 1907 [some (.ref 1000000), some (.ref 0), some (.ref 83), some (.ref 132), some (.int (Int32.ofNat n)), o5, o6, none] [] S2 (cm_sh K e)) :
    cm_At (am_XX L xs) (d + 6) 300 1738 [some (.ref 1000000), some (.ref 0), some (.ref 83), some (.ref 132), some (.int (Int32.ofNat n)), o5, o6, none] [] S K := by
  obtain ⟨hce, hcf⟩ := cr_ok_iff hmr
  refine cx_300_1738 _ _ _ ?_
  refine cx_297_0 ?_
  refine cx_152_0 ?_
  refine cp_160 (fun hok => cp_r0 ?_) (fun hok => cp_x0 ?_)
  · obtain ⟨e1, e41, _⟩ := hcf hok
    intro x1 h1
    rw [h1]
    try dsimp only [cm_sh]
    refine cp_r2 ⟨cp_in (i := 0) (by decide) (by decide), ?_⟩
    intro S5 h5
    rw [h5]
    have f1 : cf_W (fun b _ => decide (b = 132)) S (cm_wJ S 132 (0 : Int32).toNatClampNeg (S.2 77 3)) := cf_wJ (decide_eq_true rfl)
    have v1 : (cm_wJ S 132 (0 : Int32).toNatClampNeg (S.2 77 3)).2 132 0 = S.2 77 3 := by rw [cp_wJ2]; exact if_pos ⟨rfl, rfl⟩
    generalize cm_wJ S 132 (0 : Int32).toNatClampNeg (S.2 77 3) = S1 at f1 v1 ⊢
    try dsimp only [cm_sh]
    refine cp_r1 ?_
    refine cx_267_0 ?_
    refine cp_266 (d := d + 2) (fun _ => cp_r1 ?_) (fun hn => absurd (by
      obtain ⟨q1, q2, q3⟩ := hce.mp hok
      unfold cr_okS
      rw [(f1 83 41 (decide_eq_false (by omega))).1, (f1 83 40 (decide_eq_false (by omega))).1]
      exact ⟨q1, q2, q3⟩) hn)
    refine ⟨fun h => absurd h (by decide), fun _ => ?_⟩
    intro x2 h2
    rw [h2, cp_wI2, (f1 83 71 (decide_eq_false (by omega))).2, ← e1]
    try dsimp only [cm_sh]
    refine cp_r2 ?_
    refine cp_172 (cp_r1 ?_)
    rw [show (cm_wI S1 83 75 0).1 83 75 = 0 from by rw [cp_wI1, if_pos ⟨rfl, rfl⟩]]
    refine ⟨fun _ => ⟨fun _ => ⟨cp_in (i := 0) (by decide) (by decide), ?_⟩, fun h => absurd rfl h⟩, fun h => absurd rfl h⟩
    intro x3 h3
    rw [h3, show (0 : Int32).toNatClampNeg = 0 from rfl, cp_wI2, v1]
    refine ⟨fun _ => cx_300_1778 _ _ _ ?_, fun h => absurd (cu_lg.mpr rfl) h⟩
    have hk := k (cm_wI S1 83 75 0) 0 (some (.int 0)) (some (.long (S.2 77 3))) (Nat.zero_le _) (cf_tr (cf_mono f1 (fun b j h => decide_eq_true (by have h := of_decide_eq_true h; omega))) (cf_wI (decide_eq_true (by omega))))
    simp only [dk_sh0, Nat.add_zero] at hk ⊢
    exact hk
  · try dsimp only [cm_sh]
    refine cp_x2 ?_
    refine ⟨by decide, fun h => absurd h (by decide), fun h => absurd h (by decide), fun _ => ?_⟩
    try dsimp only [cm_sh]
    refine cp_r1 ?_
    refine cx_267_0 ?_
    refine cp_266 (d := d + 2) (fun hx => absurd (hce.mpr hx) hok) (fun _ => cp_r1 ?_)
    refine ⟨fun _ => ?_, fun h => absurd rfl h⟩
    try dsimp only [cm_sh]
    refine cp_r2 ?_
    refine cp_172 (cp_r1 ?_)
    rw [show (cm_wI S 83 75 1).1 83 75 = 1 from by rw [cp_wI1, if_pos ⟨rfl, rfl⟩]]
    refine ⟨fun _ => ⟨fun h => absurd h (by decide), fun _ => cx_300_1778 _ _ _ ?_⟩, fun h => absurd rfl h⟩
    have hk := k (cm_wI S 83 75 1) 1 (some (.int 1)) (some (.long 0)) (Nat.le_refl _) (cf_wI (decide_eq_true (by omega)))
    simp only [dk_sh0, Nat.add_zero] at hk ⊢
    exact hk
theorem cr_cells (hmr : cr_mr S) (k : cm_At (am_XX L xs) (d + 3) 300 1907 [some (.ref 1000000), some (.ref 0), some (.ref 83), some (.ref 132), some (.int (Int32.ofNat n)), o5, o6, none] [] (cm_wI S 83 75 0) K) :
    cm_At (am_XX L xs) (d + 3) 300 1794 [some (.ref 1000000), some (.ref 0), some (.ref 83), some (.ref 132), some (.int (Int32.ofNat n)), o5, o6, none] [] S K := by
  refine cx_300_1794 _ _ _ ?_
  refine cx_154_0 ?_
  refine cx_115_0 ?_
  intro x1 h1
  rw [h1]
  refine cp_r1 ?_
  try dsimp only [cm_sh]
  refine cp_r1 ?_
  refine cx_269_0 ?_
  intro S1 h2
  rw [h2]
  intro x2 h3
  rw [h3, cp_wI1, if_neg (by omega)]
  rcases hmr with ⟨q1, q2, q3, q4, q5⟩ | ⟨q1, V, st, lim, wc, sh, dd, o, ⟨G, nc, ne, nf, nv, g1, g2, g3⟩, _⟩
  · rw [q1, q4]
    refine ⟨fun _ => cp_r1 ?_, fun hc => absurd rfl hc⟩
    refine ⟨fun _ => ?_, fun hc => absurd (by decide) hc⟩
    simp only [dk_sh0, Nat.add_zero]
    exact k
  · rw [q1]
    refine ⟨fun hc => absurd hc (by decide), fun _ => ?_⟩
    intro x3 h4
    rw [h4, cp_wI1, if_neg (by omega), g1.2.2.1, g1.2.2.2.1]
    have h9 := g1.2.1
    rw [show Int32.ofNat nc - 9 = Int32.ofNat (nc - 9) from cp_sb (b := 9) h9, show Int32.ofNat (nc - 1) - 8 = Int32.ofNat (nc - 1 - 8) from cp_sb (b := 8) (by omega)]
    refine cp_r1 ?_
    rw [show nc - 1 - 8 = nc - 9 by omega]
    refine ⟨fun _ => ?_, fun hc => absurd rfl hc⟩
    simp only [dk_sh0, Nat.add_zero]
    exact k
end CPa41b
