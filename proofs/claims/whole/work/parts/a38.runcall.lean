/-! ## a38 run: the class's call, the model's -/
theorem dw_me_cf {WA WS : Nat → Nat → Bool} {A A2 S S2 : cm_S} {V : Nat → ct_T} {G : dm_Gs} {ne : Nat} (hA : cf_W WA A A2) (hS : cf_W WS S S2) (oA : ∀ b j, 57 ≤ b ∧ b ≤ 79 → WA b j = false) (oS : ∀ b j, (b = 83 ∧ 40 ≤ j ∧ j ≤ 71 ∨ 92 ≤ b ∧ b ≤ 98 ∧ 2400 ≤ j ∧ j < 3600) → WS b j = false) (h : dm_me A S V G ne) : dm_me A2 S2 V G ne := by
  obtain ⟨h1, g, q, t, t2, h2, h3, h4, h5, h6, h7⟩ := h
  refine ⟨(hA _ _ (oA _ _ (by omega))).1.trans h1, g, q, t, t2, (hA _ _ (oA _ _ (by omega))).1.trans h2, dm_n_cf hA (fun b j q1 q2 => oA _ _ (by omega)) hS (fun b x q1 q2 q3 q4 => oS _ _ (by omega)) h3, by rw [(hA 57 11 (oA _ _ (by omega))).1]; exact h4, (hS _ _ (oS _ _ (by omega))).1.trans h5, ?_, (hS _ _ (oS _ _ (by omega))).1.trans h7⟩
  rw [(hA 57 11 (oA _ _ (by omega))).1, (hS 83 64 (oS _ _ (by omega))).1]
  exact h6
theorem dw_fin_cf {WA WS : Nat → Nat → Bool} {A A2 S S2 : cm_S} {V : Nat → ct_T} {st lim wc sh dd o : Nat} (hA : cf_W WA A A2) (hS : cf_W WS S S2) (oA : ∀ b j, 57 ≤ b ∧ b ≤ 79 → WA b j = false) (oS : ∀ b j, (b = 83 ∧ 40 ≤ j ∧ j ≤ 71 ∨ 92 ≤ b ∧ b ≤ 98 ∧ 2400 ≤ j ∧ j < 3600 ∨ 114 ≤ b ∧ b ≤ 129) → WS b j = false) (h : dw_fin A S V st lim wc sh dd o) : dw_fin A2 S2 V st lim wc sh dd o := by
  obtain ⟨G, nc, ne, nf, nv, h1, h2, h3, h4, h5, h6, h7, h8⟩ := h
  have rA : dm_rA A S dd nf sh nc → dm_rA A2 S2 dd nf sh nc := fun hr => dm_rA_cf hA hS (fun b j hb => oA _ _ (by have := hr.2.1; omega)) (fun b j hb => oS _ _ (by omega)) hr
  exact ⟨G, nc, ne, nf, nv, dm_M_cf hA hS (fun b j hb => oA _ _ (by omega)) (fun b j hb => oS _ _ (by omega)) (oA _ _ (by omega)) (oA _ _ (by omega)) (oA _ _ (by omega)) (oS _ _ (by omega)) (oS _ _ (by omega)) (oS _ _ (by omega)) (oS _ _ (by omega)) h1, dm_H_cf hA hS (fun b j hb => oA _ _ (by omega)) (fun b j hb => oS _ _ (by omega)) (Nat.le_refl _) h2, dw_ct_cf (fun i _ => (hA 73 i (oA _ _ (by omega))).1) h3, h4, (hA _ _ (oA _ _ (by omega))).1.trans h5, (hS _ _ (oS _ _ (by omega))).1.trans h6, fun hx => ⟨rA (h7 hx).1, dw_me_cf hA hS oA (fun b j hb => oS _ _ (by omega)) (h7 hx).2.1, (h7 hx).2.2⟩, fun hx => ⟨rA (h8 hx).1, (h8 hx).2⟩⟩
/-- what class and model have in common of their runs, between calls -/
def cr_mr (S : cm_S) : Prop := (S.1 83 41 = 0 ∧ S.1 57 6 = -1 ∧ S.1 57 7 = 0 ∧ S.1 64 4 = Int32.ofNat 9 ∧ ∀ j, j < 6 → S.1 79 j = 0) ∨ (S.1 83 41 = 1 ∧ ∃ (V : Nat → ct_T) (st lim wc sh dd o : Nat), dw_fin S S V st lim wc sh dd o ∧ st ≤ lim ∧ lim ≤ 3999 ∧ wc ≤ sh ∧ sh ≤ 20)
theorem cr_mr_cf {W : Nat → Nat → Bool} {S S2 : cm_S} (hc : cf_W W S S2) (h : ∀ b j, (57 ≤ b ∧ b ≤ 79 ∨ b = 83 ∧ 40 ≤ j ∧ j ≤ 71 ∨ 92 ≤ b ∧ b ≤ 98 ∧ 2400 ≤ j ∧ j < 3600 ∨ 114 ≤ b ∧ b ≤ 129) → W b j = false) (hm : cr_mr S) : cr_mr S2 := by
  rcases hm with ⟨h1, h2, h3, h4, h5⟩ | ⟨h1, V, st, lim, wc, sh, dd, o, h2, h3⟩
  · refine Or.inl ⟨(hc _ _ (h _ _ (by omega))).1.trans h1, (hc _ _ (h _ _ (by omega))).1.trans h2, (hc _ _ (h _ _ (by omega))).1.trans h3, (hc _ _ (h _ _ (by omega))).1.trans h4, fun j hj => (hc _ _ (h _ _ (by omega))).1.trans (h5 j hj)⟩
  · exact Or.inr ⟨(hc _ _ (h _ _ (by omega))).1.trans h1, V, st, lim, wc, sh, dd, o, dw_fin_cf hc hc (fun b j hb => h _ _ (by omega)) (fun b j hb => h _ _ (by omega)) h2, h3⟩
section CPa38
variable {L : Nat} {xs : Nat → Int32} {d : Nat} {T W : Nat → ct_T} {S : cm_S} {K : cm_K} {p m q3 : Int32} {c0 sl pl c : Nat}
theorem cp_162s (k1 : 1 ≤ m.toInt ∧ m.toInt ≤ 1000 → K (.inl none) S 0) (k2 : ¬ (1 ≤ m.toInt ∧ m.toInt ≤ 1000) → K (.inr 1) S 1) : cm_At (am_XX L xs) (d + 1) 162 0 [some (.int m)] [] S K := by
  have e3 : (m < (1 : Int32)) ↔ m.toInt < 1 := by rw [Int32.lt_iff_toInt_lt, show (1 : Int32).toInt = 1 from rfl]
  have e4 : ((1000 : Int32) < m) ↔ 1000 < m.toInt := by rw [Int32.lt_iff_toInt_lt, show (1000 : Int32).toInt = 1000 from rfl]
  refine cx_162_0 _ ?_
  refine ⟨fun h => k2 (fun hc => by rw [e3] at h; omega), fun h => ⟨fun h2 => k2 (fun hc => by rw [e4] at h2; omega), fun h2 => k1 ⟨by rw [e3] at h; omega, by rw [e4] at h2; omega⟩⟩⟩
/-- the class's loop from its own beginning -/
theorem cp_59z {B A1 : cm_S} {dd lim o : Nat} (hb : dw_bA W dd B) (c1 : ∀ (L : Nat) (xs : Nat → Int32) (d : Nat) (K : cm_K) (q1 : Int32) (t : Nat), t + 20000 < 1000000 → K (.inl (some (.int (Int32.ofNat o)))) A1 0 → cm_At (am_XX L xs) (d + 7) 59 18 [some (.ref 57), some (.int q1), some (.int (Int32.ofNat t))] [] (dw_as dd lim B) K) (k : K (.inl (some (.int (Int32.ofNat o)))) A1 0) : cm_At (am_XX L xs) (d + 7) 59 0 [some (.ref 57), some (.int (Int32.ofNat lim)), none] [] (de_nx (de_ps (cm_wI B 65 dd (-2)) 0 (-1) (Int32.ofNat dd) 0 0) (Int32.ofNat (150 * dd)) (-1)) K := by
  refine cx_59_0 _ ?_
  intro x1 h1
  have e57 : (de_nx (de_ps (cm_wI B 65 dd (-2)) 0 (-1) (Int32.ofNat dd) 0 0) (Int32.ofNat (150 * dd)) (-1)).1 57 7 = Int32.ofNat 0 := by
    rw [(dw_nx_cf 57 7 (decide_eq_false (by omega))).1, (de_ps_cf 57 7 (decide_eq_false (by omega))).1, cp_wI1, if_neg (by omega)]
    exact hb.2.2.2.2.2.2.2.2.2
  rw [h1, e57, cp_ad, Nat.zero_add]
  intro S2 h2
  rw [h2]
  intro S3 h3
  rw [h3]
  exact c1 L xs d K _ 0 (by omega) k
theorem cq_run (hc : q3 = 0 ∧ c0 = 27 ∨ q3 = 1 ∧ c0 = 21) (hT : ck_d S 21 T) (hTw : ∀ i, i < 8 → ct_wf (T i)) (hds : ct_ds W) (hd : ck_d S c0 W) (hTW : ∀ i, i < 8 → (T i = .leaf ↔ W i = .leaf))
    (k1 : ¬ ct_df T p → K (.inl (some (.int 1))) S 1) (k2 : ct_df T p → ¬ (1 ≤ m.toInt ∧ m.toInt ≤ 1000) → K (.inl (some (.int 2))) S 1)
    (k3 : ∀ dd lim B, p = Int32.ofNat dd → dd < 8 → ¬ W dd = .leaf → m = Int32.ofNat lim → 1 ≤ lim → lim ≤ 1000 → dw_bA W dd B → cf_W (fun b _ => decide (57 ≤ b ∧ b ≤ 79)) S B → ∃ o A1, (∀ (L : Nat) (xs : Nat → Int32) (d : Nat) (K : cm_K) (q1 : Int32) (t : Nat), t + 20000 < 1000000 → K (.inl (some (.int (Int32.ofNat o)))) A1 0 → cm_At (am_XX L xs) (d + 7) 59 18 [some (.ref 57), some (.int q1), some (.int (Int32.ofNat t))] [] (dw_as dd lim B) K) ∧ K (.inl (some (.int 0))) (cm_wJ A1 132 0 (Int32.ofNat o).toInt64) 0) :
    cm_At (am_XX L xs) (d + 10) 295 0 [some (.ref 0), some (.int p), some (.int m), some (.int q3), some (.ref 132), none] [] S K := by
  refine cx_295_0 _ _ _ ?_
  refine cx_150_0 _ _ _ ?_
  refine cp_158 hT hTw (fun hdf => cp_r0 ?_) (fun hdf => cp_x0 ?_)
  · refine cp_162s (fun hm => cp_r0 ?_) (fun hm => cp_x0 ?_)
    · obtain ⟨dd, hdd, hp, hl⟩ := ct_df_of hdf
      obtain ⟨lim, hlim, hl1, hl2⟩ := cp_of (p := m) (by omega)
      have hW : ¬ W dd = .leaf := fun hx => hl ((hTW dd hdd).mpr hx)
      obtain rfl := hp
      obtain rfl := hlim
      rcases hc with ⟨rfl, rfl⟩ | ⟨rfl, rfl⟩
      · refine ⟨fun _ => ?_, fun hx => absurd rfl hx⟩
        refine cp_58 (d := d + 2) (W := W) (Or.inr rfl) (dw_wf hds) hd hdd hW (fun B hb fB => cp_r0 ?_)
        obtain ⟨o, A1, c1, hkk⟩ := k3 dd lim B rfl hdd hW rfl (by omega) (by omega) hb fB
        simp only [dk_sh0]
        refine cp_59z (d := d + 1) hb c1 (cp_r1 ?_)
        try dsimp only [cm_sh]
        refine cp_r1 ⟨cp_in (i := 0) (by decide) (by decide), ?_⟩
        intro S5 h5
        rw [h5]
        exact hkk
      · refine ⟨fun hx => absurd hx (by decide), fun _ => ?_⟩
        refine cp_58 (d := d + 2) (W := W) (Or.inl rfl) (dw_wf hds) hd hdd hW (fun B hb fB => cp_r0 ?_)
        obtain ⟨o, A1, c1, hkk⟩ := k3 dd lim B rfl hdd hW rfl (by omega) (by omega) hb fB
        simp only [dk_sh0]
        refine cp_59z (d := d + 1) hb c1 (cp_r1 ?_)
        try dsimp only [cm_sh]
        refine cp_r1 ⟨cp_in (i := 0) (by decide) (by decide), ?_⟩
        intro S5 h5
        rw [h5]
        exact hkk
    · try dsimp only [cm_sh]
      refine cp_x1 ?_
      refine ⟨by decide, fun h => absurd h (by decide), fun _ => ?_, fun h => absurd h (by decide)⟩
      exact k2 hdf hm
  · try dsimp only [cm_sh]
    refine cp_x1 ?_
    refine ⟨by decide, fun _ => ?_, fun h => absurd h (by decide), fun h => absurd h (by decide)⟩
    exact k1 hdf
end CPa38
