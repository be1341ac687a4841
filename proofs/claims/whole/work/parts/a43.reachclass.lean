/-! ## a43 what can still be reached: the class -/
def dl_A (A : cm_S) (L : List Nat) : Prop := A.1 80 4 = Int32.ofNat L.length ∧ (∀ i m, L[i]? = some m → A.1 81 i = Int32.ofNat m) ∧ ∀ m, m < 8009 → A.1 82 m = if m ∈ L then 1 else 0
def dl_WA (b _j : Nat) : Bool := decide (80 ≤ b ∧ b ≤ 82)
theorem dm_rl2 : cm_rl 81 = 8009 := by decide +kernel
theorem dl_ad_in {L : List Nat} {m : Nat} (hm : m < 2147483648) : dl_ad L (Int32.ofNat m) = if m ∈ L then L else L ++ [m] := by
  unfold dl_ad
  rw [if_neg (cp_m1 hm), cp_cl hm]
section CPa43
variable {L : Nat} {xs : Nat → Int32} {d : Nat} {A : cm_S} {K : cm_K} {Ls : List Nat} {nc : Nat} {c : Int32}
theorem cp_103 (h : dl_A A Ls) (hok : dl_ok nc Ls) (hnc : nc ≤ 8009) (hc : dl_v nc c) (k : ∀ A2, dl_A A2 (dl_ad Ls c) → cf_W dl_WA A A2 → K (.inl none) A2 0) : cm_At (am_XX L xs) (d + 2) 103 0 [some (.ref 80), some (.int c)] [] A K := by
  obtain ⟨h1, h2, h3⟩ := id h
  have hok2 := dl_ok_len (dl_ad_ok hok hnc hc)
  rcases hc with rfl | ⟨m, hm, hm8, rfl⟩
  · refine cx_103_0 _ ⟨fun _ => ?_, fun hc => absurd (by decide) hc⟩
    exact k A (by unfold dl_ad; rw [if_pos rfl]; exact h) cf_rfl
  · rw [dl_ad_in (by omega)] at k hok2
    refine cx_103_0 _ ⟨fun hc => absurd hc (cp_nn (by omega)), fun _ => ⟨fun _ => ?_, fun hc => absurd ((cp_lt (by omega) (by omega)).mpr (by omega)) hc⟩⟩
    refine ⟨cp_in (by omega) (by decide), ?_⟩
    rw [cp_cl (n := m) (by omega)]
    intro x1 hx1
    rw [hx1, h3 m (by omega)]
    by_cases hmem : m ∈ Ls
    · rw [if_pos hmem] at k ⊢
      exact ⟨fun hc => absurd hc (by decide), fun _ => k A h cf_rfl⟩
    · rw [if_neg hmem] at k hok2 ⊢
      rw [List.length_append, List.length_singleton] at hok2
      refine ⟨fun _ => ⟨cp_in (by omega) (by decide), ?_⟩, fun hc => absurd rfl hc⟩
      intro S2 h4
      rw [h4]
      intro x3 h5
      rw [h5, cp_wI1, if_neg (by omega), h1]
      refine cp_167 (by decide) (cp_r0 ?_)
      rw [cp_w_at (by rw [dm_rl2]; omega) (by decide +kernel)]
      intro x7 h6
      rw [h6, cp_wI1, if_neg (by omega), cp_wI1, if_neg (by omega), h1, show Int32.ofNat Ls.length + 1 = Int32.ofNat (Ls.length + 1) from cp_ad (b := 1)]
      intro S8 h7
      rw [h7]
      refine k _ ⟨?_, fun i x hi => ?_, fun x hx => ?_⟩ (cf_tr (cf_wI (decide_eq_true (by omega))) (cf_tr (cf_wI (decide_eq_true (by omega))) (cf_wI (decide_eq_true (by omega)))))
      · rw [cp_wI1, if_pos ⟨rfl, rfl⟩, List.length_append]
        rfl
      · rw [cp_wI1, if_neg (by omega), cp_wI1]
        by_cases hie : i = Ls.length
        · rw [if_pos ⟨rfl, hie⟩]
          rw [hie, List.getElem?_append_right (Nat.le_refl _), Nat.sub_self] at hi
          injection hi with hi
          rw [hi]
        · rw [if_neg (fun hc => hie hc.2), cp_wI1, if_neg (by omega)]
          have hil : i < Ls.length := by
            rcases Nat.lt_or_ge i (Ls ++ [m]).length with hx | hx
            · rw [List.length_append, List.length_singleton] at hx; omega
            · rw [List.getElem?_eq_none hx] at hi; cases hi
          rw [List.getElem?_append_left hil] at hi
          exact h2 i x hi
      · rw [cp_wI1, if_neg (by omega), cp_wI1, if_neg (by omega), cp_wI1]
        by_cases hxm : x = m
        · rw [if_pos ⟨rfl, hxm⟩, if_pos (by rw [hxm]; exact List.mem_append_right _ List.mem_cons_self)]
          rfl
        · rw [if_neg (fun hc => hxm hc.2), h3 x hx]
          by_cases hxl : x ∈ Ls
          · rw [if_pos hxl, if_pos (List.mem_append_left _ hxl)]
          · rw [if_neg hxl, if_neg (fun hc => by
              rcases List.mem_append.mp hc with hc | hc
              · exact hxl hc
              · exact hxm (List.mem_singleton.mp hc))]
end CPa43
/-- the cells that the nodes of a tree mean -/
def dl_ls (A : cm_S) (s : Int32) : List ct_D → List Int32
  | [] => []
  | e :: l => (if e.1 = 2 then [dm_fd A e.2.2.1 8000 s] else if e.1 = 3 then [e.2.1.toInt32] else []) ++ dl_ls A s l
theorem dl_ls_app {A : cm_S} {s : Int32} : ∀ (l m : List ct_D), dl_ls A s (l ++ m) = dl_ls A s l ++ dl_ls A s m
  | [], m => rfl
  | e :: l, m => by
    show _ ++ dl_ls A s (l ++ m) = (_ ++ dl_ls A s l) ++ dl_ls A s m
    rw [dl_ls_app l m, List.append_assoc]
theorem dm_fd_eq {A B : cm_S} {x : Int32} (h1 : B.1 69 = A.1 69) (h2 : B.1 70 = A.1 70) (h3 : B.1 71 = A.1 71) : ∀ (n : Nat) (o : Int32), dm_fd B x n o = dm_fd A x n o
  | 0, _ => rfl
  | n + 1, o => by
    unfold dm_fd
    rw [h1, h2, h3, dm_fd_eq h1 h2 h3 n]
/-- what is known of a run that gave something, as its cells are counted -/
def dl_M (M : cm_S) (V : Nat → ct_T) (G : dm_Gs) (nc ne nv : Nat) : Prop := dm_M M M V G nc ne 0 nv ∧ nc ≤ 8009 ∧ ne < 8000 ∧ nv < 8192 ∧ ∀ m, m < nc → ¬ m = 8 → ¬ M.1 65 m = -2
section CPa43b
variable {L : Nat} {xs : Nat → Int32} {d : Nat} {M A : cm_S} {K : cm_K} {V : Nat → ct_T} {G : dm_Gs} {nc ne nv g : Nat} {s : Int32}
theorem dl_ls_v (hM : dl_M M V G nc ne nv) (hs : dm_sc G ne g s) : ∀ l : List ct_D, (∀ e, e ∈ l → ct_nu e) → ∀ c, c ∈ dl_ls M s l → dl_v nc c
  | [], _, c, h => absurd h List.not_mem_nil
  | e :: l, hl, c, h => by
    obtain ⟨m1, m2, m3, m4, m5⟩ := hM
    have h9 := m1.2.1
    rcases List.mem_append.mp h with h | h
    · by_cases h2 : e.1 = 2
      · rw [if_pos h2, List.mem_singleton] at h
        rw [h]
        rcases dm_fd_cw (x := e.2.2.1) m1.2.2.2.2.2.2.2.2.2.1 (by omega) 8000 g s hs with h5 | ⟨m, q1, q2, q3⟩
        · exact Or.inl h5
        · exact Or.inr ⟨m, q1, by omega, q3⟩
      · rw [if_neg h2] at h
        by_cases h3 : e.1 = 3
        · rw [if_pos h3, List.mem_singleton] at h
          rw [h]
          obtain ⟨i, hi, hie⟩ := cu_l64 (m := 8) (by omega) ((hl e List.mem_cons_self).1 h3)
          refine Or.inr ⟨i, by omega, by omega, ?_⟩
          rw [hie]
          exact (dk_i64 hi).2
        · rw [if_neg h3] at h
          exact absurd h List.not_mem_nil
    · exact dl_ls_v ⟨m1, m2, m3, m4, m5⟩ hs l (fun f hf => hl f (List.mem_cons_of_mem _ hf)) c h
theorem dl_MA (hM : dl_M M V G nc ne nv) (hA : cf_W dl_WA M A) : dm_M A M V G nc ne 0 nv := dm_M_cf hA (cf_rfl (W := fun _ _ => false)) (fun b j hb => decide_eq_false (by omega)) (fun b j hb => rfl) (decide_eq_false (by omega)) (decide_eq_false (by omega)) (decide_eq_false (by omega)) rfl rfl rfl rfl hM.1
theorem dl_fdA (hA : cf_W dl_WA M A) {x : Int32} {n : Nat} : dm_fd A x n s = dm_fd M x n s := dm_fd_eq (funext fun j => (hA 69 j (decide_eq_false (by omega))).1) (funext fun j => (hA 70 j (decide_eq_false (by omega))).1) (funext fun j => (hA 71 j (decide_eq_false (by omega))).1) n s
theorem cp_105l (hM : dl_M M V G nc ne nv) (hs : dm_sc G ne g s) {q1 : Int32} : ∀ (l : List ct_D) (r : Nat) (A : cm_S) (Ls : List Nat) (K : cm_K), ck_f M 58 r l → r + l.length ≤ 1200 → (∀ e, e ∈ l → ct_nu e) → dl_A A Ls → dl_ok nc Ls → cf_W dl_WA M A → (∀ A2, dl_A A2 (dl_ads Ls (dl_ls M s l)) → cf_W dl_WA M A2 → K (.inl none) A2 0) →
    cm_At (am_XX L xs) (d + 4) 105 12 [some (.ref 80), some (.int q1), some (.int s), some (.int (Int32.ofNat (r + l.length))), some (.int (Int32.ofNat r))] [] A K
  | [], r, A, Ls, K, hf, hr, hl, hA, hok, fA, k => by
    refine cx_105_12 _ _ _ _ ⟨fun hc => absurd hc (by rw [cp_lt (by omega) (by omega)]; exact Nat.lt_irrefl _), fun _ => k A hA fA⟩
  | e :: l, r, A, Ls, K, hf, hr, hl, hA, hok, fA, k => by
    rw [List.length_cons] at hr
    obtain ⟨hrow, hf2⟩ := ck_f_cons.mp hf
    have hgr : cp_gr A 58 (Int32.ofNat r) = e := by
      rw [cp_gr_at (by decide) (by rw [dw_cap58.1]; omega), ← hrow]
      unfold cp_row
      rw [(fA (58 + 1) r (decide_eq_false (by omega))).1, (fA (58 + 4) r (decide_eq_false (by omega))).2, (fA (58 + 2) r (decide_eq_false (by omega))).1, (fA (58 + 3) r (decide_eq_false (by omega))).1]
    have g8 : cp_g (cm_cap 58) (A.1 (58 + 1)) 0 (Int32.ofNat r) = e.1 := congrArg Prod.fst hgr
    have g9 : cp_g (cm_cap 58) (A.1 (58 + 2)) (-1) (Int32.ofNat r) = e.2.2.1 := congrArg (fun x => x.2.2.1) hgr
    have g11 : cp_g (cm_cap 58) (A.2 (58 + 4)) 0 (Int32.ofNat r) = e.2.1 := congrArg (fun x => x.2.1) hgr
    have hv := dl_ls_v hM hs (e :: l) hl
    have hnx : ∀ (A2 : cm_S) (Ls2 : List Nat), dl_A A2 Ls2 → dl_ok nc Ls2 → cf_W dl_WA M A2 → dl_ads Ls (dl_ls M s (e :: l)) = dl_ads Ls2 (dl_ls M s l) → cm_At (am_XX L xs) (d + 4) 105 12 [some (.ref 80), some (.int q1), some (.int s), some (.int (Int32.ofNat (r + (e :: l).length))), some (.int (Int32.ofNat r + 1))] [] A2 K := fun A2 Ls2 h1 h2 h3 h4 => by
      rw [show Int32.ofNat r + 1 = Int32.ofNat (r + 1) from cp_ad (b := 1), List.length_cons, show r + (l.length + 1) = r + 1 + l.length by omega]
      exact cp_105l hM hs l (r + 1) A2 Ls2 K hf2 (by omega) (fun f hf => hl f (List.mem_cons_of_mem _ hf)) h1 h2 h3 (fun A3 h5 h6 => k A3 (by rw [h4]; exact h5) h6)
    have hlt : Int32.ofNat r < Int32.ofNat (r + (e :: l).length) := (cp_lt (by omega) (by rw [List.length_cons]; omega)).mpr (by rw [List.length_cons]; omega)
    refine cx_105_12 _ _ _ _ ⟨fun _ => ?_, fun hc => absurd hlt hc⟩
    refine cp_8 (by decide) (cp_r1 ?_)
    rw [g8]
    by_cases h2 : e.1 = 2
    · have hd : dl_ls M s (e :: l) = [dm_fd M e.2.2.1 8000 s] ++ dl_ls M s l := by
        show (if e.1 = 2 then [dm_fd M e.2.2.1 8000 s] else if e.1 = 3 then [e.2.1.toInt32] else []) ++ dl_ls M s l = _
        rw [if_pos h2]
      have hvc := hv (dm_fd M e.2.2.1 8000 s) (by rw [hd]; exact List.mem_cons_self)
      refine ⟨fun _ => ?_, fun hc => absurd h2 hc⟩
      refine cp_9 (by decide) (cp_r1 ?_)
      rw [g9]
      refine dm_127 (dl_MA hM fA).2.2.2.2.2.2.2.2.2.1 (by have := hM.2.2.1; omega) hs (cp_r1 ?_)
      rw [dl_fdA fA]
      refine cp_103 hA hok hM.2.1 hvc (fun A2 a1 a2 => cp_r0 ?_)
      simp only [dk_sh0]
      exact hnx A2 _ a1 (dl_ad_ok hok hM.2.1 hvc) (cf_tr fA a2) (by rw [hd]; rfl)
    · refine ⟨fun hc => absurd hc h2, fun _ => ?_⟩
      refine cp_8 (by decide) (cp_r1 ?_)
      rw [g8]
      by_cases h3 : e.1 = 3
      · have hd : dl_ls M s (e :: l) = [e.2.1.toInt32] ++ dl_ls M s l := by
          show (if e.1 = 2 then [dm_fd M e.2.2.1 8000 s] else if e.1 = 3 then [e.2.1.toInt32] else []) ++ dl_ls M s l = _
          rw [if_neg h2, if_pos h3]
        have hvc := hv e.2.1.toInt32 (by rw [hd]; exact List.mem_cons_self)
        refine ⟨fun _ => ?_, fun hc => absurd h3 hc⟩
        refine cp_11 (by decide) (cp_r2 ?_)
        rw [g11]
        refine cp_103 hA hok hM.2.1 hvc (fun A2 a1 a2 => cp_r0 ?_)
        simp only [dk_sh0]
        exact hnx A2 _ a1 (dl_ad_ok hok hM.2.1 hvc) (cf_tr fA a2) (by rw [hd]; rfl)
      · have hd : dl_ls M s (e :: l) = dl_ls M s l := by
          show (if e.1 = 2 then [dm_fd M e.2.2.1 8000 s] else if e.1 = 3 then [e.2.1.toInt32] else []) ++ dl_ls M s l = _
          rw [if_neg h2, if_neg h3]
          rfl
        refine ⟨fun hc => absurd hc h3, fun _ => ?_⟩
        simp only [dk_sh0]
        exact hnx A Ls hA hok fA (by rw [hd])
end CPa43b
