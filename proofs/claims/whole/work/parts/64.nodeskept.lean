/-! ## 64 making a node keeps what holds of nodes -/
theorem ct_w_app {N : List ct_E} {x : ct_E} {p : Int32} (hl : N.length ≤ 120) (h : ct_px N.length p) : ct_w (N ++ [x]) p = ct_w N p := by
  rcases h with h | ⟨j, h1, h2⟩
  · rw [h, ct_w_m1, ct_w_m1]
  · rw [h2]
    have he := List.getElem?_eq_getElem h1
    rw [ct_w_at (by omega) he, ct_w_at (by omega) (by rw [List.getElem?_append_left h1]; exact he)]
theorem ct_is_pp {N : List ct_E} {p : Int32} {b : Prop} (hb : b) (h : ct_is N p) : ct_pp N.length b p := by
  obtain ⟨j, h1, h2, _⟩ := ct_is_of h
  exact ⟨fun _ => ⟨j, h1, h2⟩, fun hc => absurd hb hc⟩
theorem ct_no_pp {i : Nat} {b : Prop} (hb : ¬ b) : ct_pp i b (-1) := ⟨fun hc => absurd hc hb, fun _ => rfl⟩
theorem ct_mk_vs {N : List ct_E} {bad full : Nat} {k v w f s t : Int32} {n : Int64} (hN : ct_vs N) (h : bad = 0 → (1 ≤ k.toInt ∧ k.toInt ≤ 14) ∧ ct_pp N.length (1 ≤ ct_ar k) f ∧ ct_pp N.length (2 ≤ ct_ar k) s ∧ ct_pp N.length (3 ≤ ct_ar k) t ∧ ct_nw (k, n, v, w) ∧ ct_nu (k, n, v, w) ∧ (v = -1 ∨ 0 ≤ v.toInt ∧ v.toInt < 26) ∧ (w = -1 ∨ 0 ≤ w.toInt ∧ w.toInt < 26) ∧ ¬ k = 8) : ct_vs (ct_mk N bad full k n v w f s t).2 := by
  have hl := hN.1
  unfold ct_mk
  split
  · next hb =>
    split
    · exact hN
    · next hc =>
      obtain ⟨g1, g2, g3, g4, g5, g6, g7, g8, g9⟩ := h hb
      have px : ∀ {b : Prop} {p : Int32} {i : Nat}, ct_pp i b p → i ≤ N.length → ct_px N.length p := fun h hi => ct_pp_px h hi
      refine ⟨by rw [List.length_append, List.length_singleton]; omega, fun i e he => ?_⟩
      by_cases hi : i < N.length
      · rw [List.getElem?_append_left hi] at he
        obtain ⟨v1, v2, v3, v4, v5, v6, v7, v8, v9, v10, v11⟩ := hN.2 i e he
        refine ⟨v1, v2, v3, v4, v5, v6, v7, v8, v9, ?_, v11⟩
        rw [ct_w_app hl (px v2 (by omega)), ct_w_app hl (px v3 (by omega)), ct_w_app hl (px v4 (by omega))]
        exact v10
      · rw [List.getElem?_append_right (by omega)] at he
        have hi0 : i = N.length := by
          have := (List.getElem?_eq_some_iff.mp he).1
          rw [List.length_singleton] at this
          omega
        subst hi0
        rw [Nat.sub_self] at he
        have he : some _ = some e := he
        injection he with he
        subst he
        refine ⟨g1, g2, g3, g4, g5, g6, g7, g8, g9, ?_, ?_⟩
        · show _ = 1 + ct_w (N ++ [_]) f + ct_w (N ++ [_]) s + ct_w (N ++ [_]) t
          rw [ct_w_app hl (px g2 (Nat.le_refl _)), ct_w_app hl (px g3 (Nat.le_refl _)), ct_w_app hl (px g4 (Nat.le_refl _))]
        · show 1 + ct_w N f + ct_w N s + ct_w N t ≤ 80
          omega
  · exact hN
theorem ct_nwA {k : Int32} {n : Int64} (h : ¬ (k = 2 ∨ k = 4 ∨ k = 6 ∨ k = 7 ∨ k = 8 ∨ k = 12)) : ct_nw (k, n, -1, -1) :=
  ⟨fun hc => absurd (by rcases hc with hc | hc | hc | hc | hc; exact Or.inl hc; exact Or.inr (Or.inl hc); exact Or.inr (Or.inr (Or.inl hc)); exact Or.inr (Or.inr (Or.inr (Or.inl hc))); exact Or.inr (Or.inr (Or.inr (Or.inr (Or.inl hc))))) h, fun hc => absurd (Or.inr (Or.inr (Or.inr (Or.inr (Or.inr hc))))) h, fun _ => ⟨rfl, rfl⟩⟩
theorem ct_nwB {k v : Int32} {n : Int64} (hk : k = 2 ∨ k = 4 ∨ k = 6 ∨ k = 7 ∨ k = 8) (h12 : ¬ k = 12) (hv : ¬ v = -1) : ct_nw (k, n, v, -1) :=
  ⟨fun _ => ⟨hv, rfl⟩, fun hc => absurd hc h12, fun hc => absurd (by rcases hk with hk | hk | hk | hk | hk; exact Or.inl hk; exact Or.inr (Or.inl hk); exact Or.inr (Or.inr (Or.inl hk)); exact Or.inr (Or.inr (Or.inr (Or.inl hk))); exact Or.inr (Or.inr (Or.inr (Or.inr (Or.inl hk))))) hc⟩
theorem ct_nuA {k v w : Int32} (h3 : ¬ k = 3) (h9 : ¬ k = 9) (h14 : ¬ k = 14) : ct_nu (k, 0, v, w) := ⟨fun hc => absurd hc h3, fun hc => absurd hc h9, fun hc => absurd hc h14, fun _ => rfl⟩
theorem ct_vn {v : Int32} (h : 0 ≤ v.toInt ∧ v.toInt < 26) : ¬ v = -1 := fun hc => by rw [hc] at h; exact absurd h.1 (by decide)
section CP64
variable {N : List ct_E}
theorem ct_vs_number (p0 : Int64) (hN : ct_vs N) : ct_vs (ct_mk N 0 1 1 p0 (-1) (-1) (-1) (-1) (-1)).2 := by
  refine ct_mk_vs hN (fun h => ?_)
  exact ⟨by decide, ct_no_pp (by decide +kernel), ct_no_pp (by decide +kernel), ct_no_pp (by decide +kernel), ct_nwA (by decide), ⟨fun hc => absurd hc (show ¬ (1 : Int32) = 3 by decide), fun hc => absurd hc (show ¬ (1 : Int32) = 9 by decide), fun hc => absurd hc (show ¬ (1 : Int32) = 14 by decide), fun hc => absurd (Or.inl rfl) hc⟩, Or.inl rfl, Or.inl rfl, by decide⟩
theorem ct_vs_variable (p0 : Int32) (hN : ct_vs N) : ct_vs (ct_mk N (if 0 ≤ p0.toInt ∧ p0.toInt < 26 then 0 else 1) 2 2 (0) p0 (-1) (-1) (-1) (-1)).2 := by
  refine ct_mk_vs hN (fun h => ?_)
  by_cases c0 : 0 ≤ p0.toInt ∧ p0.toInt < 26
  case neg => rw [if_neg c0] at h; exact absurd h (by decide)
  rw [if_pos c0] at h
  exact ⟨by decide, ct_no_pp (by decide +kernel), ct_no_pp (by decide +kernel), ct_no_pp (by decide +kernel), ct_nwB (by decide) (by decide) (ct_vn c0), ct_nuA (by decide) (by decide) (by decide), Or.inr c0, Or.inl rfl, by decide⟩
theorem ct_vs_global (p0 : Int32) (hN : ct_vs N) : ct_vs (ct_mk N (if 0 ≤ p0.toInt ∧ p0.toInt < 8 then 0 else 1) 2 3 (p0.toInt64) (-1) (-1) (-1) (-1) (-1)).2 := by
  refine ct_mk_vs hN (fun h => ?_)
  by_cases c0 : 0 ≤ p0.toInt ∧ p0.toInt < 8
  case neg => rw [if_neg c0] at h; exact absurd h (by decide)
  rw [if_pos c0] at h
  exact ⟨by decide, ct_no_pp (by decide +kernel), ct_no_pp (by decide +kernel), ct_no_pp (by decide +kernel), ct_nwA (by decide), ⟨fun _ => (by show 0 ≤ (p0.toInt64).toInt ∧ (p0.toInt64).toInt < 8; rw [Int32.toInt_toInt64]; exact c0), fun hc => absurd hc (show ¬ (3 : Int32) = 9 by decide), fun hc => absurd hc (show ¬ (3 : Int32) = 14 by decide), fun hc => absurd (Or.inr (Or.inl rfl)) hc⟩, Or.inl rfl, Or.inl rfl, by decide⟩
theorem ct_vs_lambda (p0 p1 : Int32) (hN : ct_vs N) : ct_vs (ct_mk N (if ct_is N p1 then (if 0 ≤ p0.toInt ∧ p0.toInt < 26 then 0 else 2) else 1) 3 4 (0) p0 (-1) p1 (-1) (-1)).2 := by
  refine ct_mk_vs hN (fun h => ?_)
  by_cases c0 : ct_is N p1
  case neg => rw [if_neg c0] at h; exact absurd h (by decide)
  rw [if_pos c0] at h
  by_cases c1 : 0 ≤ p0.toInt ∧ p0.toInt < 26
  case neg => rw [if_neg c1] at h; exact absurd h (by decide)
  rw [if_pos c1] at h
  exact ⟨by decide, ct_is_pp (by decide +kernel) c0, ct_no_pp (by decide +kernel), ct_no_pp (by decide +kernel), ct_nwB (by decide) (by decide) (ct_vn c1), ct_nuA (by decide) (by decide) (by decide), Or.inr c1, Or.inl rfl, by decide⟩
theorem ct_vs_apply (p0 p1 : Int32) (hN : ct_vs N) : ct_vs (ct_mk N (if ct_is N p0 then (if ct_is N p1 then 0 else 1) else 1) 2 5 (0) (-1) (-1) p0 p1 (-1)).2 := by
  refine ct_mk_vs hN (fun h => ?_)
  by_cases c0 : ct_is N p0
  case neg => rw [if_neg c0] at h; exact absurd h (by decide)
  rw [if_pos c0] at h
  by_cases c1 : ct_is N p1
  case neg => rw [if_neg c1] at h; exact absurd h (by decide)
  rw [if_pos c1] at h
  exact ⟨by decide, ct_is_pp (by decide +kernel) c0, ct_is_pp (by decide +kernel) c1, ct_no_pp (by decide +kernel), ct_nwA (by decide), ct_nuA (by decide) (by decide) (by decide), Or.inl rfl, Or.inl rfl, by decide⟩
theorem ct_vs_let0 (p0 p1 p2 : Int32) (hN : ct_vs N) : ct_vs (ct_mk N (if ct_is N p1 then (if ct_is N p2 then (if 0 ≤ p0.toInt ∧ p0.toInt < 26 then 0 else 2) else 1) else 1) 3 6 (0) p0 (-1) p1 p2 (-1)).2 := by
  refine ct_mk_vs hN (fun h => ?_)
  by_cases c0 : ct_is N p1
  case neg => rw [if_neg c0] at h; exact absurd h (by decide)
  rw [if_pos c0] at h
  by_cases c1 : ct_is N p2
  case neg => rw [if_neg c1] at h; exact absurd h (by decide)
  rw [if_pos c1] at h
  by_cases c2 : 0 ≤ p0.toInt ∧ p0.toInt < 26
  case neg => rw [if_neg c2] at h; exact absurd h (by decide)
  rw [if_pos c2] at h
  exact ⟨by decide, ct_is_pp (by decide +kernel) c0, ct_is_pp (by decide +kernel) c1, ct_no_pp (by decide +kernel), ct_nwB (by decide) (by decide) (ct_vn c2), ct_nuA (by decide) (by decide) (by decide), Or.inr c2, Or.inl rfl, by decide⟩
theorem ct_vs_let1 (p0 p1 p2 : Int32) (hN : ct_vs N) : ct_vs (ct_mk N (if ct_is N p1 then (if ct_is N p2 then (if 0 ≤ p0.toInt ∧ p0.toInt < 26 then 0 else 2) else 1) else 1) 3 7 (0) p0 (-1) p1 p2 (-1)).2 := by
  refine ct_mk_vs hN (fun h => ?_)
  by_cases c0 : ct_is N p1
  case neg => rw [if_neg c0] at h; exact absurd h (by decide)
  rw [if_pos c0] at h
  by_cases c1 : ct_is N p2
  case neg => rw [if_neg c1] at h; exact absurd h (by decide)
  rw [if_pos c1] at h
  by_cases c2 : 0 ≤ p0.toInt ∧ p0.toInt < 26
  case neg => rw [if_neg c2] at h; exact absurd h (by decide)
  rw [if_pos c2] at h
  exact ⟨by decide, ct_is_pp (by decide +kernel) c0, ct_is_pp (by decide +kernel) c1, ct_no_pp (by decide +kernel), ct_nwB (by decide) (by decide) (ct_vn c2), ct_nuA (by decide) (by decide) (by decide), Or.inr c2, Or.inl rfl, by decide⟩
theorem ct_vs_primitive (p0 p1 p2 : Int32) (hN : ct_vs N) : ct_vs (ct_mk N (if ct_is N p1 then (if ct_is N p2 then (if 0 ≤ p0.toInt ∧ p0.toInt < 5 then 0 else 2) else 1) else 1) 3 9 (p0.toInt64) (-1) (-1) p1 p2 (-1)).2 := by
  refine ct_mk_vs hN (fun h => ?_)
  by_cases c0 : ct_is N p1
  case neg => rw [if_neg c0] at h; exact absurd h (by decide)
  rw [if_pos c0] at h
  by_cases c1 : ct_is N p2
  case neg => rw [if_neg c1] at h; exact absurd h (by decide)
  rw [if_pos c1] at h
  by_cases c2 : 0 ≤ p0.toInt ∧ p0.toInt < 5
  case neg => rw [if_neg c2] at h; exact absurd h (by decide)
  rw [if_pos c2] at h
  exact ⟨by decide, ct_is_pp (by decide +kernel) c0, ct_is_pp (by decide +kernel) c1, ct_no_pp (by decide +kernel), ct_nwA (by decide), ⟨fun hc => absurd hc (show ¬ (9 : Int32) = 3 by decide), fun _ => (by show 0 ≤ (p0.toInt64).toInt ∧ (p0.toInt64).toInt < 5; rw [Int32.toInt_toInt64]; exact c2), fun hc => absurd hc (show ¬ (9 : Int32) = 14 by decide), fun hc => absurd (Or.inr (Or.inr (Or.inl rfl))) hc⟩, Or.inl rfl, Or.inl rfl, by decide⟩
theorem ct_vs_nil  (hN : ct_vs N) : ct_vs (ct_mk N 0 1 10 (0) (-1) (-1) (-1) (-1) (-1)).2 := by
  refine ct_mk_vs hN (fun h => ?_)
  exact ⟨by decide, ct_no_pp (by decide +kernel), ct_no_pp (by decide +kernel), ct_no_pp (by decide +kernel), ct_nwA (by decide), ct_nuA (by decide) (by decide) (by decide), Or.inl rfl, Or.inl rfl, by decide⟩
theorem ct_vs_cons (p0 p1 : Int32) (hN : ct_vs N) : ct_vs (ct_mk N (if ct_is N p0 then (if ct_is N p1 then 0 else 1) else 1) 2 11 (0) (-1) (-1) p0 p1 (-1)).2 := by
  refine ct_mk_vs hN (fun h => ?_)
  by_cases c0 : ct_is N p0
  case neg => rw [if_neg c0] at h; exact absurd h (by decide)
  rw [if_pos c0] at h
  by_cases c1 : ct_is N p1
  case neg => rw [if_neg c1] at h; exact absurd h (by decide)
  rw [if_pos c1] at h
  exact ⟨by decide, ct_is_pp (by decide +kernel) c0, ct_is_pp (by decide +kernel) c1, ct_no_pp (by decide +kernel), ct_nwA (by decide), ct_nuA (by decide) (by decide) (by decide), Or.inl rfl, Or.inl rfl, by decide⟩
theorem ct_vs_test (p0 p1 p2 : Int32) (hN : ct_vs N) : ct_vs (ct_mk N (if ct_is N p0 then (if ct_is N p1 then (if ct_is N p2 then 0 else 1) else 1) else 1) 2 13 (0) (-1) (-1) p0 p1 p2).2 := by
  refine ct_mk_vs hN (fun h => ?_)
  by_cases c0 : ct_is N p0
  case neg => rw [if_neg c0] at h; exact absurd h (by decide)
  rw [if_pos c0] at h
  by_cases c1 : ct_is N p1
  case neg => rw [if_neg c1] at h; exact absurd h (by decide)
  rw [if_pos c1] at h
  by_cases c2 : ct_is N p2
  case neg => rw [if_neg c2] at h; exact absurd h (by decide)
  rw [if_pos c2] at h
  exact ⟨by decide, ct_is_pp (by decide +kernel) c0, ct_is_pp (by decide +kernel) c1, ct_is_pp (by decide +kernel) c2, ct_nwA (by decide), ct_nuA (by decide) (by decide) (by decide), Or.inl rfl, Or.inl rfl, by decide⟩
theorem ct_vs_centre (p0 p1 : Int32) (hN : ct_vs N) : ct_vs (ct_mk N (if ct_is N p1 then (if 0 ≤ p0.toInt ∧ p0.toInt < 6 then 0 else 2) else 1) 3 14 (p0.toInt64) (-1) (-1) p1 (-1) (-1)).2 := by
  refine ct_mk_vs hN (fun h => ?_)
  by_cases c0 : ct_is N p1
  case neg => rw [if_neg c0] at h; exact absurd h (by decide)
  rw [if_pos c0] at h
  by_cases c1 : 0 ≤ p0.toInt ∧ p0.toInt < 6
  case neg => rw [if_neg c1] at h; exact absurd h (by decide)
  rw [if_pos c1] at h
  exact ⟨by decide, ct_is_pp (by decide +kernel) c0, ct_no_pp (by decide +kernel), ct_no_pp (by decide +kernel), ct_nwA (by decide), ⟨fun hc => absurd hc (show ¬ (14 : Int32) = 3 by decide), fun hc => absurd hc (show ¬ (14 : Int32) = 9 by decide), fun _ => (by show 0 ≤ (p0.toInt64).toInt ∧ (p0.toInt64).toInt < 6; rw [Int32.toInt_toInt64]; exact c1), fun hc => absurd (Or.inr (Or.inr (Or.inr rfl))) hc⟩, Or.inl rfl, Or.inl rfl, by decide⟩
theorem ct_vs_match (p0 p1 p2 p3 : Int32) (hN : ct_vs N) : ct_vs (ct_mk N (if ct_is N p0 then (if ct_is N p1 then (if ct_is N p3 then (if 0 ≤ p2.toInt ∧ p2.toInt < 676 then (if ¬ p2 / 26 = p2 - p2 / 26 * 26 then 0 else 2) else 2) else 1) else 1) else 1) 3 12 (0) (p2 / 26) (p2 - p2 / 26 * 26) p0 p1 p3).2 := by
  refine ct_mk_vs hN (fun h => ?_)
  by_cases c0 : ct_is N p0
  case neg => rw [if_neg c0] at h; exact absurd h (by decide)
  rw [if_pos c0] at h
  by_cases c1 : ct_is N p1
  case neg => rw [if_neg c1] at h; exact absurd h (by decide)
  rw [if_pos c1] at h
  by_cases c2 : ct_is N p3
  case neg => rw [if_neg c2] at h; exact absurd h (by decide)
  rw [if_pos c2] at h
  by_cases c3 : 0 ≤ p2.toInt ∧ p2.toInt < 676
  case neg => rw [if_neg c3] at h; exact absurd h (by decide)
  rw [if_pos c3] at h
  by_cases c4 : ¬ p2 / 26 = p2 - p2 / 26 * 26
  case neg => rw [if_neg c4] at h; exact absurd h (by decide)
  obtain ⟨z, rfl, hz, hz2⟩ := cp_of c3.1
  have tb : ∀ z, z < 676 → (0 ≤ (Int32.ofNat z / 26).toInt ∧ (Int32.ofNat z / 26).toInt < 26) ∧ (0 ≤ (Int32.ofNat z - Int32.ofNat z / 26 * 26).toInt ∧ (Int32.ofNat z - Int32.ofNat z / 26 * 26).toInt < 26) := by decide +kernel
  obtain ⟨t1, t2⟩ := tb z (by omega)
  exact ⟨by decide, ct_is_pp (by decide +kernel) c0, ct_is_pp (by decide +kernel) c1, ct_is_pp (by decide +kernel) c2, ⟨fun hc => absurd hc (show ¬ ((12 : Int32) = 2 ∨ (12 : Int32) = 4 ∨ (12 : Int32) = 6 ∨ (12 : Int32) = 7 ∨ (12 : Int32) = 8) by decide), fun _ => ⟨ct_vn t1, ct_vn t2, c4⟩, fun hc => absurd (Or.inr (Or.inr (Or.inr (Or.inr (Or.inr rfl))))) hc⟩, ct_nuA (by decide) (by decide) (by decide), Or.inr t1, Or.inr t2, by decide⟩
end CP64
