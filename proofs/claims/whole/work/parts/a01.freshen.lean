/-! ## a01 Draft: variables of their own -/
def dt_pf (n : Nat) (P B : List Int32) (x : Int32) : Int32 := if x ∈ P then Int32.ofNat (n + ct_ix x B) else x
theorem dt_pf_st {n : Nat} {P R : List Int32} {x : Int32} (hnd : (P ++ (x :: R)).Nodup) (hx : x.toInt < (n : Int)) (hn : n + (P ++ (x :: R)).length < 2147483648) (z : Int32) : (if dt_pf n P (P ++ (x :: R)) z = x then Int32.ofNat (n + P.length) else dt_pf n P (P ++ (x :: R)) z) = dt_pf n (P ++ [x]) (P ++ (x :: R)) z := by
  have hxP : ¬ x ∈ P := by
    rw [List.nodup_append] at hnd
    exact fun hc => hnd.2.2 _ hc _ List.mem_cons_self rfl
  have hix : ct_ix x (P ++ (x :: R)) = P.length := by rw [ct_ix_no hxP, ct_ix_cons, if_pos rfl]; rfl
  unfold dt_pf
  by_cases hz : z ∈ P
  · have hzB : z ∈ P ++ (x :: R) := List.mem_append_left _ hz
    have := ct_ix_lt hzB
    rw [if_pos hz, if_neg (fun hc => by rw [← hc, cp_tI (by omega)] at hx; omega), if_pos (List.mem_append_left _ hz)]
  · rw [if_neg hz]
    by_cases hzx : z = x
    · rw [if_pos hzx, if_pos (List.mem_append_right _ (by rw [hzx]; exact List.mem_singleton.mpr rfl)), hzx, hix]
    · rw [if_neg hzx, if_neg (fun hc => by
        rcases List.mem_append.mp hc with hc | hc
        · exact hz hc
        · exact hzx (List.mem_singleton.mp hc))]
theorem dt_pf_no {n : Nat} {P B : List Int32} {x : Int32} (h : ¬ x ∈ P) : dt_pf n P B x = x := by
  unfold dt_pf
  rw [if_neg h]
/-- a renaming of rows -/
theorem dk_ren {S S2 : cm_S} {x y : Int32} {l0 m : List ct_D} (hf : ck_f S 50 0 (l0 ++ m)) (hle : l0.length + m.length ≤ 150) (h2 : ∀ i, i < 150 → cp_row S2 50 i = if l0.length ≤ i ∧ i < l0.length + m.length then dt_r1 x y (cp_row S 50 i) else cp_row S 50 i) : ck_f S2 50 0 (l0 ++ m.map (dt_r1 x y)) := by
  intro i e hi
  have hlt := (List.getElem?_eq_some_iff.mp hi).1
  rw [List.length_append, List.length_map] at hlt
  rw [Nat.zero_add, h2 i (by omega)]
  by_cases hc : l0.length ≤ i
  · rw [if_pos ⟨hc, hlt⟩]
    rw [List.getElem?_append, if_neg (by omega), List.getElem?_map] at hi
    obtain ⟨e0, h0, rfl⟩ := Option.map_eq_some_iff.mp hi
    have := hf i e0 (by rw [List.getElem?_append, if_neg (by omega)]; exact h0)
    rw [Nat.zero_add] at this
    rw [this]
  · rw [if_neg (by omega)]
    rw [List.getElem?_append, if_pos (by omega)] at hi
    have := hf i e (by rw [List.getElem?_append, if_pos (by omega)]; exact hi)
    rw [Nat.zero_add] at this
    exact this
theorem ct_ib_no {e : ct_D} (hn : ct_nw e) (h : ct_ob e = []) : ct_ib e = false ∧ e.2.2.2 = -1 := by
  have h12 : ¬ e.1 = 12 := fun hc => by
    unfold ct_ob at h
    rw [if_pos hc] at h
    cases h
  have h4 : ¬ (e.1 = 4 ∨ e.1 = 6 ∨ e.1 = 7 ∨ e.1 = 8) := fun hc => by
    unfold ct_ob at h
    rw [if_neg h12, if_pos hc] at h
    cases h
  refine ⟨?_, ?_⟩
  · cases hb : ct_ib e with
    | false => rfl
    | true =>
      have := (ct_ib_of hn).mp hb
      rcases this with h | h | h | h | h
      · exact absurd (Or.inl h) h4
      · exact absurd (Or.inr (Or.inl h)) h4
      · exact absurd (Or.inr (Or.inr (Or.inl h))) h4
      · exact absurd (Or.inr (Or.inr (Or.inr h))) h4
      · exact absurd h h12
  · by_cases h2 : e.1 = 2
    · exact (hn.1 (Or.inl h2)).2
    · exact (hn.2.2 (fun hc => by
        rcases hc with h | h | h | h | h | h
        · exact h2 h
        · exact h4 (Or.inl h)
        · exact h4 (Or.inr (Or.inl h))
        · exact h4 (Or.inr (Or.inr (Or.inl h)))
        · exact h4 (Or.inr (Or.inr (Or.inr h)))
        · exact h12 h)).2
section CPa01
variable {L : Nat} {xs : Nat → Int32} {d : Nat}
/-- in any case it comes to an end -/
theorem cp_53w {len s0 : Nat} (hs : s0 ≤ len) (hlen : len < 100000) : ∀ (m j : Nat) (S : cm_S) (K : cm_K), j + m = len → S.1 50 5 = Int32.ofNat len → (∀ S2, cf_W cW_dr S S2 → S2.1 50 5 = Int32.ofNat len → K (.inl none) S2 0) →
    cm_At (am_XX L xs) (d + 3) 53 2 [some (.ref 50), some (.int (Int32.ofNat s0)), some (.int (Int32.ofNat j))] [] S K := by
  intro m
  induction m with
  | zero =>
    intro j S K hj h5 k
    refine cx_53_2 _ _ ?_
    rintro _ rfl
    rw [h5, cp_lt (by omega) (by omega)]
    exact ⟨fun h => absurd h (by omega), fun _ => k S cf_rfl h5⟩
  | succ m ih =>
    intro j S K hj h5 k
    have next : ∀ (S1 : cm_S) , cf_W cW_dr S S1 → S1.1 50 5 = Int32.ofNat len → cm_At (am_XX L xs) (d + 3) 53 2 [some (.ref 50), some (.int (Int32.ofNat s0)), some (.int (Int32.ofNat j + 1))] [] S1 K := fun S1 c1 e1 => by
      rw [show Int32.ofNat j + 1 = Int32.ofNat (j + 1) from cp_ad (b := 1)]
      exact ih (j + 1) S1 K (by omega) e1 (fun S2 c2 e2 => k S2 (cf_tr c1 c2) e2)
    have ren : ∀ (S1 : cm_S) (x y : Int32) (K2 : cm_K), S1.1 50 5 = Int32.ofNat len → (∀ S2, cf_W cW_dr S1 S2 → S2.1 50 5 = Int32.ofNat len → K2 (.inl none) S2 0) → cm_At (am_XX L xs) (d + 2) 24 0 [some (.ref 50), some (.int (Int32.ofNat s0)), some (.int (Int32.ofNat len)), some (.int x), some (.int y), none] [] S1 K2 := fun S1 x y K2 e1 k2 => by
      refine cx_24_0 (by decide) _ _ _ _ ?_
      refine cp_24 hlen (len - s0) s0 S1 K2 (by omega) (fun S2 c2 _ => k2 S2 (cf_mono c2 (fun b j h => decide_eq_true (by have h := of_decide_eq_true h; omega))) ?_)
      rw [(c2 50 5 (decide_eq_false (by omega))).1, e1]
    refine cx_53_2 _ _ ?_
    rintro _ rfl
    rw [h5, cp_lt (by omega) (by omega)]
    refine ⟨fun _ => ?_, fun h => absurd (by omega) h⟩
    refine cp_18 (by decide) (cp_r1 ?_)
    split
    · refine ⟨fun h => absurd h (by decide), fun _ => ?_⟩
      rintro _ rfl
      refine cp_9 (by decide) (cp_r1 ?_)
      rintro _ rfl
      rw [h5]
      refine ren S _ _ _ h5 (fun S2 c2 e2 => cp_r0 ?_)
      rintro _ rfl
      rintro _ rfl
      have c3 : cf_W cW_dr S2 (cm_wI S2 50 6 (S2.1 50 6 + 1)) := cf_wI (decide_eq_true (by omega))
      have e3 : (cm_wI S2 50 6 (S2.1 50 6 + 1)).1 50 5 = Int32.ofNat len := by rw [cp_wI1, if_neg (by omega)]; exact e2
      refine cp_10 (by decide) (cp_r1 ?_)
      refine ⟨fun _ => cp_shz (cp_shz (cp_shz (cp_shz (next _ (cf_tr c2 c3) e3)))), fun _ => ?_⟩
      rintro _ rfl
      refine cp_10 (by decide) (cp_r1 ?_)
      rintro _ rfl
      rw [e3]
      refine ren _ _ _ _ e3 (fun S4 c4 e4 => cp_r0 ?_)
      rintro _ rfl
      rintro _ rfl
      refine cp_shz (cp_shz (cp_shz (cp_shz (cp_shz (cp_shz (next _ (cf_tr (cf_tr c2 c3) (cf_tr c4 (cf_wI (decide_eq_true (by omega))))) ?_))))))
      rw [cp_wI1, if_neg (by omega)]; exact e4
    · refine ⟨fun _ => ?_, fun h => absurd rfl h⟩
      refine cp_10 (by decide) (cp_r1 ?_)
      refine ⟨fun _ => cp_shz (cp_shz (next S cf_rfl h5)), fun _ => ?_⟩
      rintro _ rfl
      rw [h5]
      refine cp_10 (by decide) (cp_r1 ?_)
      rintro _ rfl
      refine ren S _ _ _ h5 (fun S4 c4 e4 => cp_r0 ?_)
      rintro _ rfl
      rintro _ rfl
      refine cp_shz (cp_shz (cp_shz (cp_shz (next _ (cf_tr c4 (cf_wI (decide_eq_true (by omega)))) ?_))))
      rw [cp_wI1, if_neg (by omega)]; exact e4
/-- within the room: each variable that is bound gets a fresh one -/
theorem cp_53s {n : Nat} {B : List Int32} {l : List ct_D} {l0 : List ct_D} (hB : B = ct_bl l) (hnd : B.Nodup) (hBn : ∀ z, z ∈ B → 0 ≤ z.toInt ∧ z.toInt < (n : Int)) (hn : n + B.length < 2147483648) (hnw : ∀ e, e ∈ l → ct_nw e) (hle : l0.length + l.length ≤ 150) : ∀ (l2 l1 : List ct_D) (S : cm_S) (K : cm_K), l = l1 ++ l2 → S.1 50 5 = Int32.ofNat (l0.length + l.length) → ck_f S 50 0 (l0 ++ l.map (ct_rd (dt_pf n (ct_bl l1) B))) → S.1 50 6 = Int32.ofNat (n + (ct_bl l1).length) →
    (∀ S2, cf_W cW_dr S S2 → S2.1 50 5 = Int32.ofNat (l0.length + l.length) → ck_f S2 50 0 (l0 ++ l.map (ct_rd (dt_pf n B B))) → S2.1 50 6 = Int32.ofNat (n + B.length) → K (.inl none) S2 0) →
    cm_At (am_XX L xs) (d + 3) 53 2 [some (.ref 50), some (.int (Int32.ofNat l0.length)), some (.int (Int32.ofNat (l0.length + l1.length)))] [] S K
  | [], l1, S, K, hl, h5, hf, h6, k => by
    rw [List.append_nil] at hl
    subst hl
    refine cx_53_2 _ _ ?_
    rintro _ rfl
    rw [h5, cp_lt (by omega) (by omega)]
    rw [← hB] at hf h6
    exact ⟨fun h => absurd h (by omega), fun _ => k S cf_rfl h5 hf h6⟩
  | e :: l2, l1, S, K, hl, h5, hf, h6, k => by
    have hl' : l = (l1 ++ [e]) ++ l2 := by rw [hl, List.append_assoc]; rfl
    have hlen : l.length = l1.length + (l2.length + 1) := by rw [hl, List.length_append, List.length_cons]
    have hwe := hnw e (by rw [hl]; exact List.mem_append_right _ List.mem_cons_self)
    have hBe : B = ct_bl l1 ++ (ct_ob e ++ ct_bl l2) := by
      rw [hB, hl, ct_bl_app]
      rfl
    have hm1 : ∀ P : List Int32, (∀ z, z ∈ P → z ∈ B) → ¬ (-1 : Int32) ∈ P := fun P hP hc => by
      have := (hBn _ (hP _ hc)).1
      exact absurd this (by decide)
    have hbl1 : ct_bl (l1 ++ [e]) = ct_bl l1 ++ ct_ob e := by
      rw [ct_bl_app]
      show ct_bl l1 ++ (ct_ob e ++ []) = _
      rw [List.append_nil]
    have next := fun (S1 : cm_S) (c1 : cf_W cW_dr S S1) (g5 : S1.1 50 5 = Int32.ofNat (l0.length + l.length)) (gf : ck_f S1 50 0 (l0 ++ l.map (ct_rd (dt_pf n (ct_bl l1 ++ ct_ob e) B)))) (g6 : S1.1 50 6 = Int32.ofNat (n + (ct_bl l1 ++ ct_ob e).length)) => cp_53s (n := n) hB hnd hBn hn hnw hle l2 (l1 ++ [e]) S1 K hl' g5 (by rw [hbl1]; exact gf) (by rw [hbl1]; exact g6) (fun S2 c2 => k S2 (cf_tr c1 c2))
    have el : l0.length + (l1 ++ [e]).length = l0.length + l1.length + 1 := by rw [List.length_append, List.length_singleton]; omega
    rw [el] at next
    have row : ∀ {S1 : cm_S} {P : List Int32}, ck_f S1 50 0 (l0 ++ l.map (ct_rd (dt_pf n P B))) → cp_gr S1 50 (Int32.ofNat (l0.length + l1.length)) = ct_rd (dt_pf n P B) e := fun {S1 P} hf => by
      rw [cp_gr_at (by decide) (by rw [dk_cap.1]; omega)]
      have := hf (l0.length + l1.length) (ct_rd (dt_pf n P B) e) (by
        rw [List.getElem?_append, if_neg (by omega), List.getElem?_map, show l0.length + l1.length - l0.length = l1.length by omega, hl, List.getElem?_append, if_neg (by omega), Nat.sub_self, List.getElem?_cons_zero]
        rfl)
      rw [Nat.zero_add] at this
      exact this
    have ren : ∀ (S1 : cm_S) (P R : List Int32) (x : Int32) (K2 : cm_K), B = P ++ (x :: R) → S1.1 50 5 = Int32.ofNat (l0.length + l.length) → ck_f S1 50 0 (l0 ++ l.map (ct_rd (dt_pf n P B))) → S1.1 50 6 = Int32.ofNat (n + P.length) → (∀ S2, cf_W cW_dr S1 S2 → S2.1 50 5 = Int32.ofNat (l0.length + l.length) → ck_f S2 50 0 (l0 ++ l.map (ct_rd (dt_pf n (P ++ [x]) B))) → S2.1 50 6 = Int32.ofNat (n + P.length) → K2 (.inl none) S2 0) → cm_At (am_XX L xs) (d + 2) 24 0 [some (.ref 50), some (.int (Int32.ofNat l0.length)), some (.int (Int32.ofNat (l0.length + l.length))), some (.int x), some (.int (Int32.ofNat (n + P.length))), none] [] S1 K2 := fun S1 P R x K2 hPB g5 gf g6 k2 => by
      refine cx_24_0 (by decide) _ _ _ _ ?_
      refine cp_24 (by omega) l.length l0.length S1 K2 rfl (fun S2 c2 h2 => k2 S2 (cf_mono c2 (fun b j h => decide_eq_true (by have h := of_decide_eq_true h; omega))) ?_ ?_ ?_)
      · rw [(c2 50 5 (decide_eq_false (by omega))).1, g5]
      · have h3 := dk_ren (x := x) (y := Int32.ofNat (n + P.length)) gf (by rw [List.length_map]; exact hle) (by rw [List.length_map]; exact h2)
        have hxn := (hBn x (by rw [hPB]; exact List.mem_append_right _ List.mem_cons_self)).2
        rw [hPB] at hnd hn
        have e1 : (l.map (ct_rd (dt_pf n P B))).map (dt_r1 x (Int32.ofNat (n + P.length))) = l.map (ct_rd (dt_pf n (P ++ [x]) B)) := by
          rw [List.map_map]
          refine List.map_congr_left (fun e _ => ?_)
          show dt_r1 x _ (ct_rd (dt_pf n P B) e) = ct_rd (dt_pf n (P ++ [x]) B) e
          unfold dt_r1 ct_rd
          dsimp only
          rw [hPB, dt_pf_st hnd hxn hn, dt_pf_st hnd hxn hn]
        rw [e1] at h3
        exact h3
      · rw [(c2 50 6 (decide_eq_false (by omega))).1, g6]
    refine cx_53_2 _ _ ?_
    rintro _ rfl
    rw [h5, cp_lt (by omega) (by omega)]
    refine ⟨fun _ => ?_, fun h => absurd (by omega) h⟩
    refine cp_18 (by decide) (cp_r1 ?_)
    have hr0 := row hf
    have hP1 : ∀ z, z ∈ ct_bl l1 → z ∈ B := fun z hz => by rw [hBe]; exact List.mem_append_left _ hz
    have tl0 : ∀ {S1 : cm_S} {P : List Int32}, cp_gr S1 50 (Int32.ofNat (l0.length + l1.length)) = ct_rd (dt_pf n P B) e → cp_g (cm_cap 50) (S1.1 53) (-1) (Int32.ofNat (l0.length + l1.length)) = dt_pf n P B e.2.2.2 := fun h => congrArg (fun x => x.2.2.2) h
    have nm0 : ∀ {S1 : cm_S} {P : List Int32}, cp_gr S1 50 (Int32.ofNat (l0.length + l1.length)) = ct_rd (dt_pf n P B) e → cp_g (cm_cap 50) (S1.1 52) (-1) (Int32.ofNat (l0.length + l1.length)) = dt_pf n P B e.2.2.1 := fun h => congrArg (fun x => x.2.2.1) h
    rw [hr0]
    by_cases hob : ct_ob e = []
    · obtain ⟨i1, i2⟩ := ct_ib_no hwe hob
      have hib : ct_ib (ct_rd (dt_pf n (ct_bl l1) B) e) = false := by
        unfold ct_ib at i1 ⊢
        have i3 := of_decide_eq_false i1
        refine decide_eq_false (fun hc => ?_)
        unfold ct_rd at hc
        dsimp only at hc
        by_cases hm : e.2.2.1 = -1
        · rw [hm, dt_pf_no (hm1 _ hP1)] at hc
          exact hc.1 rfl
        · exact i3 ⟨hm, hc.2⟩
      rw [hib, if_neg (by decide)]
      refine ⟨fun _ => ?_, fun h => absurd rfl h⟩
      refine cp_10 (by decide) (cp_r1 ?_)
      rw [tl0 hr0, i2, dt_pf_no (hm1 _ hP1)]
      refine ⟨fun _ => ?_, fun h => absurd rfl h⟩
      rw [show Int32.ofNat (l0.length + l1.length) + 1 = Int32.ofNat (l0.length + l1.length + 1) from cp_ad (b := 1)]
      rw [hob, List.append_nil] at next
      exact cp_shz (cp_shz (next S cf_rfl h5 hf h6))
    · have h4 : e.1 = 4 ∨ e.1 = 6 ∨ e.1 = 7 ∨ e.1 = 8 ∨ e.1 = 12 := by
        by_cases h12 : e.1 = 12
        · exact Or.inr (Or.inr (Or.inr (Or.inr h12)))
        · by_cases h4 : e.1 = 4 ∨ e.1 = 6 ∨ e.1 = 7 ∨ e.1 = 8
          · rcases h4 with h | h | h | h
            · exact Or.inl h
            · exact Or.inr (Or.inl h)
            · exact Or.inr (Or.inr (Or.inl h))
            · exact Or.inr (Or.inr (Or.inr (Or.inl h)))
          · exfalso
            refine hob ?_
            unfold ct_ob
            rw [if_neg h12, if_neg h4]
      have hxo := ct_ob_v h4
      have hnd' := hnd
      rw [hBe, List.nodup_append] at hnd'
      have hxP : ∀ z, z ∈ ct_ob e → ¬ z ∈ ct_bl l1 := fun z hz hc => hnd'.2.2 _ hc _ (List.mem_append_left _ hz) rfl
      have hib : ct_ib (ct_rd (dt_pf n (ct_bl l1) B) e) = true := by
        have h1 := (ct_ib_of hwe).mpr h4
        unfold ct_ib at h1 ⊢
        unfold ct_rd
        dsimp only
        rw [dt_pf_no (hxP _ hxo)]
        exact h1
      rw [hib, if_pos rfl]
      refine ⟨fun h => absurd h (by decide), fun _ => ?_⟩
      rintro _ rfl
      refine cp_9 (by decide) (cp_r1 ?_)
      rw [nm0 hr0, dt_pf_no (hxP _ hxo)]
      rintro _ rfl
      rw [h5, h6]
      have i1 : Int32.ofNat (l0.length + l1.length) + 1 = Int32.ofNat (l0.length + l1.length + 1) := cp_ad (b := 1)
      rw [i1]
      by_cases h12 : e.1 = 12
      · have ho2 : ct_ob e = [e.2.2.1, e.2.2.2] := by unfold ct_ob; rw [if_pos h12]
        have hB2 : B = ct_bl l1 ++ (e.2.2.1 :: (e.2.2.2 :: ct_bl l2)) := by rw [hBe, ho2]; rfl
        have hB3 : B = (ct_bl l1 ++ [e.2.2.1]) ++ (e.2.2.2 :: ct_bl l2) := by rw [hB2, List.append_assoc]; rfl
        obtain ⟨q1, q2, q3⟩ := hwe.2.1 h12
        refine ren S (ct_bl l1) _ e.2.2.1 _ hB2 h5 hf h6 (fun S2 c2 g5 gf g6 => cp_r0 ?_)
        rintro _ rfl
        rintro _ rfl
        rw [g6, show Int32.ofNat (n + (ct_bl l1).length) + 1 = Int32.ofNat (n + (ct_bl l1).length + 1) from cp_ad (b := 1)]
        have c3 : cf_W cW_dr S2 (cm_wI S2 50 6 (Int32.ofNat (n + (ct_bl l1).length + 1))) := cf_wI (decide_eq_true (by omega))
        have gf3 : ck_f (cm_wI S2 50 6 (Int32.ofNat (n + (ct_bl l1).length + 1))) 50 0 (l0 ++ l.map (ct_rd (dt_pf n (ct_bl l1 ++ [e.2.2.1]) B))) := ck_f_cf (W := fun b j => decide (b = 50 ∧ j = 6)) (cf_wI (decide_eq_true ⟨rfl, rfl⟩)) (fun b j _ _ _ _ => decide_eq_false (by omega)) gf
        have g53 : (cm_wI S2 50 6 (Int32.ofNat (n + (ct_bl l1).length + 1))).1 50 5 = Int32.ofNat (l0.length + l.length) := by rw [cp_wI1, if_neg (by omega)]; exact g5
        have g63 : (cm_wI S2 50 6 (Int32.ofNat (n + (ct_bl l1).length + 1))).1 50 6 = Int32.ofNat (n + (ct_bl l1 ++ [e.2.2.1]).length) := by
          rw [cp_wI1, if_pos ⟨rfl, rfl⟩, List.length_append, List.length_singleton, Nat.add_assoc]
        have hw2 : ¬ e.2.2.2 ∈ ct_bl l1 ++ [e.2.2.1] := fun hc => by
          rcases List.mem_append.mp hc with hc | hc
          · exact hxP _ (by rw [ho2]; exact List.mem_cons_of_mem _ List.mem_cons_self) hc
          · exact q3 (List.mem_singleton.mp hc).symm
        refine cp_10 (by decide) (cp_r1 ?_)
        rw [tl0 (row gf3), dt_pf_no hw2]
        refine ⟨fun h => absurd h q2, fun _ => ?_⟩
        rintro _ rfl
        refine cp_10 (by decide) (cp_r1 ?_)
        rw [tl0 (row gf3), dt_pf_no hw2]
        rintro _ rfl
        rw [g53, g63]
        refine ren _ (ct_bl l1 ++ [e.2.2.1]) _ e.2.2.2 _ hB3 g53 gf3 g63 (fun S4 c4 g5 gf g6 => cp_r0 ?_)
        rintro _ rfl
        rintro _ rfl
        rw [g6]
        refine cp_shz (cp_shz (cp_shz (cp_shz (cp_shz (cp_shz (next _ (cf_tr (cf_tr c2 c3) (cf_tr c4 (cf_wI (decide_eq_true (by omega))))) ?_ ?_ ?_))))))
        · rw [cp_wI1, if_neg (by omega)]; exact g5
        · rw [ho2]
          have e1 : ct_bl l1 ++ [e.2.2.1, e.2.2.2] = ct_bl l1 ++ [e.2.2.1] ++ [e.2.2.2] := by rw [List.append_assoc]; rfl
          rw [e1]
          exact ck_f_cf (W := fun b j => decide (b = 50 ∧ j = 6)) (cf_wI (decide_eq_true ⟨rfl, rfl⟩)) (fun b j _ _ _ _ => decide_eq_false (by omega)) gf
        · rw [cp_wI1, if_pos ⟨rfl, rfl⟩, ho2]
          simp only [List.length_append, List.length_cons, List.length_nil]
          rw [show Int32.ofNat (n + ((ct_bl l1).length + (0 + 1))) + 1 = Int32.ofNat (n + ((ct_bl l1).length + (0 + 1)) + 1) from cp_ad (b := 1)]
          rfl
      · have h4' : e.1 = 4 ∨ e.1 = 6 ∨ e.1 = 7 ∨ e.1 = 8 := by
          rcases h4 with h | h | h | h | h
          · exact Or.inl h
          · exact Or.inr (Or.inl h)
          · exact Or.inr (Or.inr (Or.inl h))
          · exact Or.inr (Or.inr (Or.inr h))
          · exact absurd h h12
        have ho2 : ct_ob e = [e.2.2.1] := by unfold ct_ob; rw [if_neg h12, if_pos h4']
        have hB2 : B = ct_bl l1 ++ (e.2.2.1 :: ct_bl l2) := by rw [hBe, ho2]; rfl
        have htl : e.2.2.2 = -1 := (hwe.1 (Or.inr h4')).2
        refine ren S (ct_bl l1) _ e.2.2.1 _ hB2 h5 hf h6 (fun S2 c2 g5 gf g6 => cp_r0 ?_)
        rintro _ rfl
        rintro _ rfl
        rw [g6, show Int32.ofNat (n + (ct_bl l1).length) + 1 = Int32.ofNat (n + (ct_bl l1).length + 1) from cp_ad (b := 1)]
        have c3 : cf_W cW_dr S2 (cm_wI S2 50 6 (Int32.ofNat (n + (ct_bl l1).length + 1))) := cf_wI (decide_eq_true (by omega))
        have gf3 : ck_f (cm_wI S2 50 6 (Int32.ofNat (n + (ct_bl l1).length + 1))) 50 0 (l0 ++ l.map (ct_rd (dt_pf n (ct_bl l1 ++ [e.2.2.1]) B))) := ck_f_cf (W := fun b j => decide (b = 50 ∧ j = 6)) (cf_wI (decide_eq_true ⟨rfl, rfl⟩)) (fun b j _ _ _ _ => decide_eq_false (by omega)) gf
        have hPm : ¬ (-1 : Int32) ∈ ct_bl l1 ++ [e.2.2.1] := hm1 _ (fun z hz => by
          rw [hB2]
          rcases List.mem_append.mp hz with hz | hz
          · exact List.mem_append_left _ hz
          · rw [List.mem_singleton.mp hz]; exact List.mem_append_right _ List.mem_cons_self)
        refine cp_10 (by decide) (cp_r1 ?_)
        rw [tl0 (row gf3), htl, dt_pf_no hPm]
        refine ⟨fun _ => ?_, fun h => absurd rfl h⟩
        rw [ho2] at next
        refine cp_shz (cp_shz (cp_shz (cp_shz (next _ (cf_tr c2 c3) ?_ gf3 ?_))))
        · rw [cp_wI1, if_neg (by omega)]; exact g5
        · rw [cp_wI1, if_pos ⟨rfl, rfl⟩, List.length_append, List.length_singleton, Nat.add_assoc]
/-- variables of its own for what a tree at the end of a draft binds -/
theorem cp_53 {S : cm_S} {K : cm_K} {l0 : List ct_D} {n : Nat} {v : ct_T} (h : dk_d S (l0 ++ ct_fl v) n) (hw : dt_w v) (hb : dt_bd n v) (hn : n + dt_nb v < 2147483648)
    (k : ∀ S2, dk_d S2 (l0 ++ ct_fl (dt_cp n v)) (n + dt_nb v) → cf_W cW_dr S S2 → K (.inl none) S2 0) :
    cm_At (am_XX L xs) (d + 3) 53 0 [some (.ref 50), some (.int (Int32.ofNat l0.length)), none] [] S K := by
  have hfl : ct_fl (dt_cp n v) = (ct_fl v).map (ct_rd (dt_pf n (dt_B v) (dt_B v))) := by
    unfold dt_cp
    rw [ct_map_fl]
    rfl
  have hlen : (l0 ++ ct_fl (dt_cp n v)).length = (l0 ++ ct_fl v).length := by
    rw [List.length_append, List.length_append, hfl, List.length_map]
  obtain ⟨h1, h2, h3⟩ := h
  rw [List.length_append] at h1 h2 h3
  refine cx_53_0 _ ?_
  by_cases hle : l0.length + (ct_fl v).length ≤ 150
  · obtain ⟨h4, h5⟩ := h3 hle
    have e0 : (ct_fl v).map (ct_rd (dt_pf n (ct_bl []) (dt_B v))) = ct_fl v := by
      have : ∀ e : ct_D, ct_rd (dt_pf n (ct_bl []) (dt_B v)) e = e := fun e => by
        unfold ct_rd
        rw [dt_pf_no (by intro hc; cases hc), dt_pf_no (by intro hc; cases hc)]
      rw [funext this, List.map_id']
    have hs := cp_53s (L := L) (xs := xs) (d := d) (n := n) (B := dt_B v) (l := ct_fl v) (l0 := l0) rfl (dt_nodup.mpr hb.1) (fun z hz => hb.2 z (dt_ct_in.mp hz)) hn hw.2.1 hle (ct_fl v) [] S K rfl h1 (by rw [e0]; exact h4) h5 (fun S2 c2 g5 gf g6 => k S2 ⟨by rw [hlen, List.length_append]; exact g5, by rw [hlen, List.length_append]; exact h2, fun _ => ⟨by rw [hfl]; exact gf, g6⟩⟩ c2)
    rw [List.length_nil, Nat.add_zero] at hs
    exact hs
  · refine cp_53w (len := l0.length + (ct_fl v).length) (by omega) h2 (ct_fl v).length l0.length S K rfl h1 (fun S2 c2 g5 => k S2 ⟨by rw [hlen, List.length_append]; exact g5, by rw [hlen, List.length_append]; exact h2, fun hc => ?_⟩ c2)
    rw [hlen, List.length_append] at hc
    exact absurd hc hle
end CPa01
