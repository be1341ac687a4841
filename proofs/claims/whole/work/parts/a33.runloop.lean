/-! ## a33 the run machine: turns one behind another, both sides -/
section CPa33
variable {L : Nat} {xs : Nat → Int32} {d : Nat} {A S A1 S1 : cm_S} {K : cm_K} {st lim nf t o q : Nat} {q1 s : Int32}
theorem cp_59X (h6 : A.1 57 6 = Int32.ofNat o) (ho : o < 2147483648) {q2 : Int32} (k : K (.inl (some (.int (Int32.ofNat o)))) A 0) : cm_At (am_XX L xs) (d + 7) 59 18 [some (.ref 57), some (.int q1), some (.int q2)] [] A K := by
  refine cx_59_18 _ _ ⟨fun _ => ?_, fun _ => ?_⟩
  · intro x1 h1
    rw [h1, h6]
    refine ⟨fun hc => absurd hc (by rw [show (-2 : Int32) = -2 from rfl]; intro hh; have := congrArg Int32.toInt hh; rw [cp_tI ho, show (-2 : Int32).toInt = -2 from rfl] at this; omega), fun _ => ?_⟩
    intro x2 h2
    rw [h2]
    exact k
  · intro x1 h1
    rw [h1, h6]
    exact k
theorem cp_59T (ht : t < 1000000) : Int32.ofNat t < (1000000 : Int32) := by
  rw [show (1000000 : Int32) = Int32.ofNat 1000000 from rfl, cp_lt (by omega) (by omega)]
  exact ht
theorem cp_59E (h6 : A.1 57 6 = -2) (h9 : A.1 57 9 = 1) (h7 : A.1 57 7 = Int32.ofNat st) (h8 : A.1 57 8 = Int32.ofNat lim) (hl : st < lim) (hl2 : lim < 2147483648) (ht : t < 1000000) (c : dw_c 61 6 [some (.ref 57), none, none] A A1) (k : cm_At (am_XX L xs) (d + 7) 59 18 [some (.ref 57), some (.int q1), some (.int (Int32.ofNat (t + 1)))] [] A1 K) : cm_At (am_XX L xs) (d + 7) 59 18 [some (.ref 57), some (.int q1), some (.int (Int32.ofNat t))] [] A K := by
  refine cx_59_18 _ _ ⟨fun _ => ?_, fun hc => absurd (cp_59T ht) hc⟩
  intro x1 h1
  rw [h1, h6]
  refine ⟨fun _ => ?_, fun hc => absurd rfl hc⟩
  intro x2 h2
  rw [h2, h9]
  refine ⟨fun hc => absurd hc (by decide), fun _ => ?_⟩
  intro x3 h3 x4 h4
  rw [h3, h4, h7, h8, cp_lt (by omega) (by omega)]
  refine ⟨fun _ => ?_, fun hc => absurd hl hc⟩
  intro x5 h5
  rw [h5]
  refine ⟨fun hc => absurd hc (by decide), fun _ => ?_⟩
  refine c L xs d _ (cp_r0 ?_)
  rw [dk_sh0, show Int32.ofNat t + 1 = Int32.ofNat (t + 1) from cp_ad (b := 1)]
  exact k
theorem cp_59F (h6 : A.1 57 6 = -2) (h9 : A.1 57 9 = 1) (h7 : A.1 57 7 = Int32.ofNat lim) (h8 : A.1 57 8 = Int32.ofNat lim) (hl2 : lim < 2147483648) (ht : t < 1000000) (k : K (.inl (some (.int (Int32.ofNat 5)))) (cm_wI A 57 6 5) 0) : cm_At (am_XX L xs) (d + 7) 59 18 [some (.ref 57), some (.int q1), some (.int (Int32.ofNat t))] [] A K := by
  refine cx_59_18 _ _ ⟨fun _ => ?_, fun hc => absurd (cp_59T ht) hc⟩
  intro x1 h1
  rw [h1, h6]
  refine ⟨fun _ => ?_, fun hc => absurd rfl hc⟩
  intro x2 h2
  rw [h2, h9]
  refine ⟨fun hc => absurd hc (by decide), fun _ => ?_⟩
  intro x3 h3 x4 h4
  rw [h3, h4, h7, h8, cp_lt (by omega) (by omega)]
  refine ⟨fun hc => absurd hc (by omega), fun _ => ?_⟩
  intro S2 h5
  rw [h5]
  exact cp_59X (o := 5) (by rw [cp_wI1, if_pos ⟨rfl, rfl⟩]; rfl) (by omega) k
theorem cp_59R (h6 : A.1 57 6 = -2) (h9 : A.1 57 9 = 0) (h72 : A.1 72 4 = Int32.ofNat (nf + 1)) (hnf : nf < 2147483647) (ht : t < 1000000) (c : dw_c 67 6 [some (.ref 57), none, none, none] A A1) (k : cm_At (am_XX L xs) (d + 7) 59 18 [some (.ref 57), some (.int q1), some (.int (Int32.ofNat (t + 1)))] [] A1 K) : cm_At (am_XX L xs) (d + 7) 59 18 [some (.ref 57), some (.int q1), some (.int (Int32.ofNat t))] [] A K := by
  refine cx_59_18 _ _ ⟨fun _ => ?_, fun hc => absurd (cp_59T ht) hc⟩
  intro x1 h1
  rw [h1, h6]
  refine ⟨fun _ => ?_, fun hc => absurd rfl hc⟩
  intro x2 h2
  rw [h2, h9]
  refine ⟨fun _ => ?_, fun hc => absurd rfl hc⟩
  intro x3 h3
  rw [h3]
  refine ⟨fun _ => ?_, fun hc => absurd rfl hc⟩
  intro x4 h4
  rw [h4, h72, show (0 : Int32) = Int32.ofNat 0 from rfl, cp_lt (by omega) (by omega)]
  refine ⟨fun _ => ?_, fun hc => absurd (Nat.succ_pos nf) hc⟩
  refine c L xs d _ (cp_r0 ?_)
  rw [dk_sh0, show Int32.ofNat t + 1 = Int32.ofNat (t + 1) from cp_ad (b := 1)]
  exact k
theorem cp_59S (h6 : A.1 57 6 = -2) (h9 : A.1 57 9 = 0) (h72 : A.1 72 4 = Int32.ofNat 0) (ht : t < 1000000) (c : dw_c 60 6 [some (.ref 57), none, none] A A1) (k : cm_At (am_XX L xs) (d + 7) 59 18 [some (.ref 57), some (.int q1), some (.int (Int32.ofNat (t + 1)))] [] A1 K) : cm_At (am_XX L xs) (d + 7) 59 18 [some (.ref 57), some (.int q1), some (.int (Int32.ofNat t))] [] A K := by
  refine cx_59_18 _ _ ⟨fun _ => ?_, fun hc => absurd (cp_59T ht) hc⟩
  intro x1 h1
  rw [h1, h6]
  refine ⟨fun _ => ?_, fun hc => absurd rfl hc⟩
  intro x2 h2
  rw [h2, h9]
  refine ⟨fun _ => ?_, fun hc => absurd rfl hc⟩
  intro x3 h3
  rw [h3]
  refine ⟨fun _ => ?_, fun hc => absurd rfl hc⟩
  intro x4 h4
  rw [h4, h72]
  refine ⟨fun hc => absurd hc (by decide), fun _ => ?_⟩
  refine c L xs d _ (cp_r0 ?_)
  rw [dk_sh0, show Int32.ofNat t + 1 = Int32.ofNat (t + 1) from cp_ad (b := 1)]
  exact k
theorem cp_263X (h40 : S.1 83 40 = Int32.ofNat o) (ho : o < 2147483648) (k : K (.inl (some (.int (Int32.ofNat o)))) S 0) : cm_At (am_XX L xs) (d + 4) 263 15 [some (.ref 83), some (.int q1)] [] S K := by
  refine cx_263_15 _ ?_
  intro x1 h1
  rw [h1, h40]
  refine ⟨fun hc => absurd hc (cp_m1 ho), fun _ => ?_⟩
  intro x2 h2
  rw [h2]
  exact k
theorem cp_263E (h40 : S.1 83 40 = -1) (h63 : S.1 83 63 = Int32.ofNat q) (hq : q < 2147483648) (h64 : S.1 83 64 = s) (h42 : S.1 83 42 = Int32.ofNat st) (h43 : S.1 83 43 = Int32.ofNat lim) (hl : st < lim) (hl2 : lim < 2147483648) (c : dw_c 257 3 [some (.ref 83), some (.int (Int32.ofNat q)), some (.int s), none, none, none] S S1) (k : cm_At (am_XX L xs) (d + 4) 263 15 [some (.ref 83), some (.int q1)] [] S1 K) : cm_At (am_XX L xs) (d + 4) 263 15 [some (.ref 83), some (.int q1)] [] S K := by
  refine cx_263_15 _ ?_
  intro x1 h1
  rw [h1, h40]
  refine ⟨fun _ => ?_, fun hc => absurd rfl hc⟩
  intro x2 h2
  rw [h2, h63]
  refine ⟨fun hc => absurd hc (cp_m1 hq), fun _ => ?_⟩
  intro x3 h3 x4 h4
  rw [h3, h4, h42, h43]
  refine ⟨fun hc => absurd ((cp_inj (by omega) (by omega)).mp hc) (by omega), fun _ => ?_⟩
  intro x5 h5
  rw [h5]
  refine ⟨fun hc => absurd hc (cp_m1 hq), fun _ => ?_⟩
  intro x6 h6 x7 h7
  rw [h6, h7, h64]
  refine c L xs d _ (cp_r0 ?_)
  rw [dk_sh0]
  exact k
theorem cp_263F (h40 : S.1 83 40 = -1) (h63 : S.1 83 63 = Int32.ofNat q) (hq : q < 2147483648) (h42 : S.1 83 42 = Int32.ofNat lim) (h43 : S.1 83 43 = Int32.ofNat lim) (k : K (.inl (some (.int (Int32.ofNat 5)))) (cm_wI S 83 40 5) 0) : cm_At (am_XX L xs) (d + 4) 263 15 [some (.ref 83), some (.int q1)] [] S K := by
  refine cx_263_15 _ ?_
  intro x1 h1
  rw [h1, h40]
  refine ⟨fun _ => ?_, fun hc => absurd rfl hc⟩
  intro x2 h2
  rw [h2, h63]
  refine ⟨fun hc => absurd hc (cp_m1 hq), fun _ => ?_⟩
  intro x3 h3 x4 h4
  rw [h3, h4, h42, h43]
  refine ⟨fun _ => ?_, fun hc => absurd rfl hc⟩
  intro S2 h5
  rw [h5]
  exact cp_263X (o := 5) (by rw [cp_wI1, if_pos ⟨rfl, rfl⟩]; rfl) (by omega) k
theorem cp_263R (h40 : S.1 83 40 = -1) (h63 : S.1 83 63 = -1) (h59 : S.1 83 59 = Int32.ofNat (nf + 1)) (hnf : nf < 2147483647) (c : dw_c 259 3 [some (.ref 83), none, none, none, none, none, none] S S1) (k : cm_At (am_XX L xs) (d + 4) 263 15 [some (.ref 83), some (.int q1)] [] S1 K) : cm_At (am_XX L xs) (d + 4) 263 15 [some (.ref 83), some (.int q1)] [] S K := by
  refine cx_263_15 _ ?_
  intro x1 h1
  rw [h1, h40]
  refine ⟨fun _ => ?_, fun hc => absurd rfl hc⟩
  intro x2 h2
  rw [h2, h63]
  refine ⟨fun _ => ?_, fun hc => absurd rfl hc⟩
  intro x3 h3
  rw [h3]
  refine ⟨fun _ => ?_, fun hc => absurd rfl hc⟩
  intro x4 h4
  rw [h4, h59, show (0 : Int32) = Int32.ofNat 0 from rfl, cp_lt (by omega) (by omega)]
  refine ⟨fun _ => ?_, fun hc => absurd (Nat.succ_pos nf) hc⟩
  refine c L xs d _ (cp_r0 ?_)
  rw [dk_sh0]
  exact k
theorem cp_263S (h40 : S.1 83 40 = -1) (h63 : S.1 83 63 = -1) (h59 : S.1 83 59 = Int32.ofNat 0) (c : dw_c 262 3 [some (.ref 83), none] S S1) (k : cm_At (am_XX L xs) (d + 4) 263 15 [some (.ref 83), some (.int q1)] [] S1 K) : cm_At (am_XX L xs) (d + 4) 263 15 [some (.ref 83), some (.int q1)] [] S K := by
  refine cx_263_15 _ ?_
  intro x1 h1
  rw [h1, h40]
  refine ⟨fun _ => ?_, fun hc => absurd rfl hc⟩
  intro x2 h2
  rw [h2, h63]
  refine ⟨fun _ => ?_, fun hc => absurd rfl hc⟩
  intro x3 h3
  rw [h3]
  refine ⟨fun _ => ?_, fun hc => absurd rfl hc⟩
  intro x4 h4
  rw [h4, h59]
  refine ⟨fun hc => absurd hc (by decide), fun _ => ?_⟩
  refine c L xs d _ (cp_r0 ?_)
  rw [dk_sh0]
  exact k
end CPa33
/-- a run under way -/
def dw_RN (A S : cm_S) (V : Nat → ct_T) (st lim wc sh dd b5 : Nat) : Prop := dw_go A S V st lim wc sh dd (9 + 2 * st) (2 * st) st (st + 1 + sh) b5 ∨ dw_g2 A S V st lim wc sh dd (9 + 2 * st) (2 * st) st (st + 1 + sh) b5
/-- a run at its end -/
def dw_fin (A S : cm_S) (V : Nat → ct_T) (st lim wc sh dd o : Nat) : Prop := ∃ (G : dm_Gs) (nc ne nf nv : Nat), dm_M A S V G nc ne nf nv ∧ dm_H A S nc st lim wc sh ∧ dw_ct A nc ne nf nv (9 + 2 * st) (2 * st) st (st + 1 + sh) (2 * (st + 1 + sh)) ∧ o ≤ 5 ∧ A.1 57 6 = Int32.ofNat o ∧ S.1 83 40 = Int32.ofNat o ∧ (o = 5 → dm_rA A S dd nf sh nc ∧ dm_me A S V G ne ∧ st = lim) ∧ (o ≤ 2 → dm_rA A S dd nf sh nc ∧ nf = 0)
theorem dw_loop {V : Nat → ct_T} {lim dd : Nat} (hlim : lim ≤ 3999) : ∀ (n st wc sh b5 : Nat) (A S : cm_S), dw_RN A S V st lim wc sh dd b5 → st ≤ lim → wc ≤ sh → sh ≤ 20 → 3 * (lim - st) + b5 + 2 * (20 - sh) < n → ∃ (o : Nat) (A1 S1 : cm_S) (st1 wc1 sh1 : Nat), (∀ (L : Nat) (xs : Nat → Int32) (d : Nat) (K : cm_K) (q1 : Int32) (t : Nat), t + n < 1000000 → K (.inl (some (.int (Int32.ofNat o)))) A1 0 → cm_At (am_XX L xs) (d + 7) 59 18 [some (.ref 57), some (.int q1), some (.int (Int32.ofNat t))] [] A K) ∧ (∀ (L : Nat) (xs : Nat → Int32) (d : Nat) (K : cm_K) (q1 : Int32), K (.inl (some (.int (Int32.ofNat o)))) S1 0 → cm_At (am_XX L xs) (d + 4) 263 15 [some (.ref 83), some (.int q1)] [] S K) ∧ cf_W dw_WA A A1 ∧ cf_W dw_WS S S1 ∧ dw_fin A1 S1 V st1 lim wc1 sh1 dd o ∧ st1 ≤ lim ∧ wc1 ≤ sh1 ∧ sh1 ≤ 20
  | 0, st, wc, sh, b5, A, S, h, hst, hwc, hsh, hm => absurd hm (Nat.not_lt_zero _)
  | n + 1, st, wc, sh, b5, A, S, h, hst, hwc, hsh, hm => by
    -- a value shown, at no frames
    have show0 : ∀ (G : dm_Gs) (nc ne nv : Nat), dm_M A S V G nc ne 0 nv → dm_H A S nc st lim wc sh → (dm_rA A S dd 0 sh nc ∨ dm_r2 A S dd 0 sh nc) → dw_on A S → dm_mg A S V G ne nc nv → nc ≤ 9 + 2 * st → ne ≤ 2 * st → nv ≤ st → ∃ (o : Nat) (A1 S1 : cm_S) (st1 wc1 sh1 : Nat), (∀ (L : Nat) (xs : Nat → Int32) (d : Nat) (K : cm_K) (q1 : Int32) (t : Nat), t + (n + 1) < 1000000 → K (.inl (some (.int (Int32.ofNat o)))) A1 0 → cm_At (am_XX L xs) (d + 7) 59 18 [some (.ref 57), some (.int q1), some (.int (Int32.ofNat t))] [] A K) ∧ (∀ (L : Nat) (xs : Nat → Int32) (d : Nat) (K : cm_K) (q1 : Int32), K (.inl (some (.int (Int32.ofNat o)))) S1 0 → cm_At (am_XX L xs) (d + 4) 263 15 [some (.ref 83), some (.int q1)] [] S K) ∧ cf_W dw_WA A A1 ∧ cf_W dw_WS S S1 ∧ dw_fin A1 S1 V st1 lim wc1 sh1 dd o ∧ st1 ≤ lim ∧ wc1 ≤ sh1 ∧ sh1 ≤ 20 := by
      intro G nc ne nv hM hH hr hon hmg b1 b2 b3
      have h9 := hmg.1
      have h63 := hmg.2.1
      rcases dw_shown hM hH hr hon hmg (by omega) (by omega) hwc hsh with ⟨A1, S1, wc1, c1, c2, f1, f2, l1, l2, go⟩ | ⟨A1, S1, o, ho, c1, c2, f1, f2, e6, e40, p⟩
      · obtain ⟨o, A2, S2, st1, wc2, sh1, d1, d2, f3, f4, fi, l3, l4, l5⟩ := dw_loop hlim n st wc1 (sh + 1) 1 A1 S1 (Or.inl (dw_go_mo go (by omega) (by omega) (by omega) (by omega) (by omega))) hst l1 l2 (by omega)
        exact ⟨o, A2, S2, st1, wc2, sh1, fun L xs d K q1 t ht k => cp_59S hon.1 h9 hM.2.2.2.2.2.2.1 (by omega) c1 (d1 L xs d K q1 (t + 1) (by omega) k), fun L xs d K q1 k => cp_263S hon.2 h63 hM.2.2.2.2.2.2.2.1 c2 (d2 L xs d K q1 k), cf_tr f1 f3, cf_tr f2 f4, fi, l3, l4, l5⟩
      · refine ⟨o, A1, S1, st, 0, sh, fun L xs d K q1 t ht k => cp_59S hon.1 h9 hM.2.2.2.2.2.2.1 (by omega) c1 (cp_59X e6 (by omega) k), c2, f1, f2, ⟨G, nc, ne, 0, nv, p.1, p.2.1, ⟨?_, ?_, ?_, Nat.zero_le _, Nat.zero_le _⟩, by omega, e6, e40, fun hc => by omega, fun _ => ⟨p.2.2, rfl⟩⟩, hst, Nat.zero_le _, hsh⟩
        · show nc + 0 ≤ _; omega
        · show ne + 2 * 0 ≤ _; omega
        · show nv + 0 ≤ _; omega
    rcases h with ⟨G, nc, ne, nf, nv, p, ⟨b1, b2, b3, b4, b6⟩, md⟩ | ⟨G, nc, ne, nv, hM, hH, hr, hmg, hon, ⟨b1, b2, b3, b4, b6⟩⟩
    · rcases md with ⟨hon, me | mg⟩ | ⟨o, ho, e6, e40⟩
      · obtain ⟨m9, g, q, t, t2, m10, hn, hs, m63, m64, m65⟩ := id me
        by_cases hl : st = lim
        · subst hl
          have hq := hn.2.2.1
          have hg := hn.1
          have hz := ct_sz_ne hn.2.2.2.1.1 hn.2.2.2.2.2.1
          have fA : cf_W (fun b j => decide (b = 57 ∧ j = 6)) A (cm_wI A 57 6 5) := cf_wI (decide_eq_true ⟨rfl, rfl⟩)
          have fS : cf_W (fun b j => decide (b = 83 ∧ j = 40)) S (cm_wI S 83 40 5) := cf_wI (decide_eq_true ⟨rfl, rfl⟩)
          have p2 := dm_P_cf fA fS (fun b j hb => decide_eq_false (by omega)) (fun b j hb => decide_eq_false (by omega)) p
          refine ⟨5, cm_wI A 57 6 5, cm_wI S 83 40 5, st, wc, sh, fun L xs d K q1 t ht k => cp_59F hon.1 m9 p.2.1.1 p.2.1.2.2.1 (by omega) (by omega) k, fun L xs d K q1 k => cp_263F hon.2 m63 (by omega) p.2.1.2.1 p.2.1.2.2.2.1 k, cf_wI (decide_eq_true (by omega)), cf_wI (decide_eq_true (by omega)), ⟨G, nc, ne, nf, nv, p2.1, p2.2.1, dw_ct_cf (A := A) (fun i _ => (fA 73 i (decide_eq_false (by omega))).1) ⟨b1, b2, b3, b4, by have := dm_fw_le (A := A) nf; omega⟩, by omega, by rw [cp_wI1, if_pos ⟨rfl, rfl⟩]; rfl, by rw [cp_wI1, if_pos ⟨rfl, rfl⟩]; rfl, fun _ => ⟨p2.2.2, ⟨(fA _ _ (decide_eq_false (by omega))).1.trans m9, g, q, t, t2, (fA _ _ (decide_eq_false (by omega))).1.trans m10, dm_n_cf fA (fun b j q1 q2 => decide_eq_false (by omega)) fS (fun b x q1 q2 q3 q4 => decide_eq_false (by omega)) hn, ?_, (fS _ _ (decide_eq_false (by omega))).1.trans m63, ?_, (fS _ _ (decide_eq_false (by omega))).1.trans m65⟩, rfl⟩, fun hc => by omega⟩, hst, hwc, hsh⟩
          · rw [(fA 57 11 (decide_eq_false (by omega))).1]; exact hs
          · rw [(fA 57 11 (decide_eq_false (by omega))).1, (fS 83 64 (decide_eq_false (by omega))).1]; exact m64
        · obtain ⟨e, a, b, c, rfl⟩ := ct_cs hn.2.2.2.1.1 hn.2.2.2.2.2.1
          have hq := hn.2.2.1
          have hg := hn.1
          have fA : cf_W (fun b j => decide (b = 57 ∧ j = 7)) A (cm_wI A 57 7 (Int32.ofNat (st + 1))) := cf_wI (decide_eq_true ⟨rfl, rfl⟩)
          have fS : cf_W (fun b j => decide (b = 83 ∧ j = 42)) S (cm_wI S 83 42 (Int32.ofNat (st + 1))) := cf_wI (decide_eq_true ⟨rfl, rfl⟩)
          have n1 : dm_nb (cm_wI A 57 7 (Int32.ofNat (st + 1))) nf = dm_nb A nf := dm_nb_cf nf (fun i _ => (fA 73 i (decide_eq_false (by omega))).1)
          have n2 : dm_fw (cm_wI A 57 7 (Int32.ofNat (st + 1))) nf = dm_fw A nf := dm_fw_cf nf (fun i _ => (fA 73 i (decide_eq_false (by omega))).1)
          have hE : dw_E A S (cm_wI A 57 7 (Int32.ofNat (st + 1))) (cm_wI S 83 42 (Int32.ofNat (st + 1))) V G nc ne nf nv st lim wc sh dd g q e a b c t2 (A.1 57 11) := ⟨rfl, rfl, p.2.1.1, p.2.1.2.1, (fA _ _ (decide_eq_false (by omega))).1.trans m10, (fA _ _ (decide_eq_false (by omega))).1, dm_P_st p, ⟨(fA _ _ (decide_eq_false (by omega))).1.trans hon.1, (fS _ _ (decide_eq_false (by omega))).1.trans hon.2⟩, dm_n_cf fA (fun b j q1 q2 => decide_eq_false (by omega)) fS (fun b x q1 q2 q3 q4 => decide_eq_false (by omega)) hn, hs, by omega, by omega, by omega, by omega⟩
          obtain ⟨A1, S1, c1, c2, f1, f2, go⟩ := dw_eval hE
          rw [n1, n2] at go
          obtain ⟨o, A2, S2, st1, wc2, sh1, d1, d2, f3, f4, fi, l3, l4, l5⟩ := dw_loop hlim n (st + 1) wc sh (b5 + 2) A1 S1 (Or.inl (dw_go_mo go (by omega) (by omega) (by omega) (by omega) (by omega))) (by omega) hwc hsh (by omega)
          exact ⟨o, A2, S2, st1, wc2, sh1, fun L xs d K q1 t ht k => cp_59E hon.1 m9 p.2.1.1 p.2.1.2.2.1 (by omega) (by omega) (by omega) c1 (d1 L xs d K q1 (t + 1) (by omega) k), fun L xs d K q1 k => cp_263E hon.2 m63 (by omega) m64 p.2.1.2.1 p.2.1.2.2.2.1 (by omega) (by omega) c2 (d2 L xs d K q1 k), cf_tr (cf_tr (cf_mono fA (fun b j h => decide_eq_true (by have h := of_decide_eq_true h; omega))) f1) f3, cf_tr (cf_tr (cf_mono fS (fun b j h => decide_eq_true (by have h := of_decide_eq_true h; omega))) f2) f4, fi, l3, l4, l5⟩
      · match nf, p, b1, b2, b3, b4, b6 with
        | 0, p, b1, b2, b3, b4, b6 => exact show0 G nc ne nv p.1 p.2.1 (Or.inl p.2.2) hon mg (by omega) (by omega) (by omega)
        | nf + 1, p, b1, b2, b3, b4, b6 =>
          have hfw : 1 ≤ dm_fw A (nf + 1) := by
            show 1 ≤ dm_fw A nf + (if A.1 73 nf = 9 then 2 else 1)
            split <;> omega
          obtain ⟨A1, S1, c1, c2, f1, f2, go⟩ := dw_res p.1 p.2.1 p.2.2 hon mg (by omega) (by omega) (by omega) (by omega)
          have hrn : dw_RN A1 S1 V st lim wc sh dd (b5 - 1) := go.imp (fun hg => dw_go_mo hg (by omega) (by omega) (by omega) (by omega) (by omega)) (fun hg => by
            obtain ⟨G2, nc2, ne2, nv2, r1, r2, r3, r4, r5, r6⟩ := hg
            exact ⟨G2, nc2, ne2, nv2, r1, r2, r3, r4, r5, dw_ct_mo r6 (by omega) (by omega) (by omega) (by omega) (by omega)⟩)
          obtain ⟨o, A2, S2, st1, wc2, sh1, d1, d2, f3, f4, fi, l3, l4, l5⟩ := dw_loop hlim n st wc sh (b5 - 1) A1 S1 hrn hst hwc hsh (by omega)
          exact ⟨o, A2, S2, st1, wc2, sh1, fun L xs d K q1 t ht k => cp_59R hon.1 mg.1 p.1.2.2.2.2.2.2.1 (by omega) (by omega) c1 (d1 L xs d K q1 (t + 1) (by omega) k), fun L xs d K q1 k => cp_263R hon.2 mg.2.1 p.1.2.2.2.2.2.2.2.1 (by omega) c2 (d2 L xs d K q1 k), cf_tr f1 f3, cf_tr f2 f4, fi, l3, l4, l5⟩
      · exact ⟨o, A, S, st, wc, sh, fun L xs d K q1 t ht k => cp_59X e6 (by omega) k, fun L xs d K q1 k => cp_263X e40 (by omega) k, cf_rfl, cf_rfl, ⟨G, nc, ne, nf, nv, p.1, p.2.1, ⟨b1, b2, b3, b4, by have := dm_fw_le (A := A) nf; omega⟩, by omega, e6, e40, fun hc => by omega, fun hc => by omega⟩, hst, hwc, hsh⟩
    · exact show0 G nc ne nv hM hH (Or.inr hr) hon hmg (by have : nc + 0 ≤ 9 + 2 * st := b1; omega) (by have : ne + 2 * 0 ≤ 2 * st := b2; omega) (by have : nv + 0 ≤ st := b3; omega)
