/-! ## a31 the run machine: what is shown next, the end -/
def de_prs : Nat → cm_S → cm_S
  | 0, A => A
  | k + 1, A => de_prs k (de_pr A 5)
def me_drs : Nat → Int32 → cm_S → cm_S
  | 0, o, S => cm_wI S 83 40 o
  | k + 1, o, S => me_drs k o (me_pr (cm_wI S 83 68 (Int32.ofNat k)) 5)
def dw_it : Nat → Int64 → Int64
  | 0, p => p
  | k + 1, p => dw_it k (31 * p + 5)
theorem de_prs_cf : ∀ (k : Nat) (A : cm_S), cf_W (fun b j => decide (b = 77 ∧ j = 3)) A (de_prs k A)
  | 0, _ => cf_rfl
  | k + 1, A => cf_tr de_pr_cf (de_prs_cf k (de_pr A 5))
theorem de_prs_at : ∀ (k : Nat) (A : cm_S), (de_prs k A).2 77 3 = dw_it k (A.2 77 3)
  | 0, _ => rfl
  | k + 1, A => by
    show (de_prs k (de_pr A 5)).2 77 3 = dw_it k (31 * A.2 77 3 + 5)
    rw [de_prs_at k, de_pr_at]
theorem me_drs_cf {o : Int32} : ∀ (k : Nat) (S : cm_S), cf_W (fun b j => decide (b = 83 ∧ (j = 40 ∨ j = 68 ∨ j = 71))) S (me_drs k o S)
  | 0, _ => cf_wI (decide_eq_true (by omega))
  | k + 1, S => cf_tr (cf_tr (cf_wI (decide_eq_true (by omega))) (cf_mono me_pr_cf (fun b j h => decide_eq_true (by have h := of_decide_eq_true h; omega)))) (me_drs_cf k _)
theorem me_drs_at {o : Int32} : ∀ (k : Nat) (S : cm_S), S.1 83 68 = Int32.ofNat k → (me_drs k o S).1 83 40 = o ∧ (me_drs k o S).1 83 68 = Int32.ofNat 0 ∧ (me_drs k o S).2 83 71 = dw_it k (S.2 83 71)
  | 0, S, h => ⟨by show (cm_wI S 83 40 o).1 83 40 = o; rw [cp_wI1, if_pos ⟨rfl, rfl⟩], by show (cm_wI S 83 40 o).1 83 68 = _; rw [cp_wI1, if_neg (by omega)]; exact h, rfl⟩
  | k + 1, S, h => by
    obtain ⟨h1, h2, h3⟩ := me_drs_at (o := o) k (me_pr (cm_wI S 83 68 (Int32.ofNat k)) 5) (by rw [(me_pr_cf 83 68 (decide_eq_false (by omega))).1, cp_wI1, if_pos ⟨rfl, rfl⟩])
    refine ⟨h1, h2, ?_⟩
    show (me_drs k o (me_pr (cm_wI S 83 68 (Int32.ofNat k)) 5)).2 83 71 = dw_it k (31 * S.2 83 71 + 5)
    rw [h3, me_pr_at, cp_wI2]
section CPa31
variable {L : Nat} {xs : Nat → Int32} {d : Nat} {A S : cm_S} {K : cm_K} {w wc sh : Nat}
theorem dw_nz {n : Nat} (h : n + 1 < 2147483648) : ¬ Int32.ofNat (n + 1) = 0 := fun hc => absurd ((cp_inj (b := 0) h (by omega)).mp hc) (by omega)
theorem cp_111y (hw : A.1 77 1 = Int32.ofNat (w + 1)) (hs : A.1 77 2 = Int32.ofNat sh) (hs2 : sh < 20) (hw2 : w < 42) (h : K (.inl (some (.int (A.1 78 w)))) (cm_wI (cm_wI A 77 2 (Int32.ofNat (sh + 1))) 77 1 (Int32.ofNat w)) 0) : cm_At (am_XX L xs) (d + 2) 111 0 [some (.ref 77)] [] A K := by
  refine cx_111_0 ?_
  intro x1 h1
  rw [h1, hw]
  refine ⟨fun hc => absurd hc (dw_nz (by omega)), fun _ => ?_⟩
  intro x2 h2
  rw [h2, hs, show (20 : Int32) = Int32.ofNat 20 from rfl, cp_lt (by omega) (by omega)]
  refine ⟨fun _ => ?_, fun hc => absurd hs2 hc⟩
  intro x3 h3
  rw [h3, show Int32.ofNat sh + 1 = Int32.ofNat (sh + 1) from cp_ad (b := 1)]
  intro S4 h4
  rw [h4]
  intro x5 h5
  rw [h5, cp_wI1, if_neg (by omega), hw, show Int32.ofNat (w + 1) - 1 = Int32.ofNat w from cp_sb (b := 1) (by omega)]
  intro S6 h6
  rw [h6]
  intro x7 h7
  rw [h7, cp_wI1, if_pos ⟨rfl, rfl⟩]
  refine cp_166 (by decide) (cp_r1 ?_)
  rw [cp_g_at (by rw [dm_rl.2.2.2.2.2.2.2.2.2.2.2.1]; omega) (by decide +kernel), cp_wI1, if_neg (by omega), cp_wI1, if_neg (by omega)]
  exact h
theorem cp_111n (hw : A.1 77 1 = Int32.ofNat wc) (hwl : wc < 2147483648) (hs : A.1 77 2 = Int32.ofNat sh) (hsl : sh < 2147483648) (hn : wc = 0 ∨ 20 ≤ sh) (h : K (.inl (some (.int (-1)))) A 0) : cm_At (am_XX L xs) (d + 2) 111 0 [some (.ref 77)] [] A K := by
  refine cx_111_0 ?_
  intro x1 h1
  rw [h1, hw]
  refine ⟨fun _ => h, fun h0 => ?_⟩
  intro x2 h2
  rw [h2, hs, show (20 : Int32) = Int32.ofNat 20 from rfl, cp_lt (by omega) (by omega)]
  refine ⟨fun hc => ?_, fun _ => h⟩
  rcases hn with hn | hn
  · subst hn; exact absurd rfl h0
  · omega
theorem cp_112l : ∀ (k i : Nat) (A : cm_S) (K : cm_K), i + k < 2147483648 → A.1 77 1 = Int32.ofNat (i + k) → K (.inl none) (cm_wI (de_prs k A) 77 1 0) 0 → cm_At (am_XX L xs) (d + 2) 112 2 [some (.ref 77), some (.int (Int32.ofNat i))] [] A K
  | 0, i, A, K, hb, hw, h => by
    refine cx_112_2 _ ?_
    intro x1 h1
    rw [h1, hw, cp_lt (by omega) (by omega)]
    refine ⟨fun hc => absurd hc (by omega), fun _ => ?_⟩
    intro S2 h2
    rw [h2]
    exact h
  | k + 1, i, A, K, hb, hw, h => by
    refine cx_112_2 _ ?_
    intro x1 h1
    rw [h1, hw, cp_lt (by omega) (by omega)]
    refine ⟨fun _ => ?_, fun hc => absurd hc (by omega)⟩
    refine cp_109 (cp_r0 ?_)
    simp only [dk_sh0]
    rw [show Int32.ofNat i + 1 = Int32.ofNat (i + 1) from cp_ad (b := 1)]
    exact cp_112l k (i + 1) _ K (by omega) (by rw [(de_pr_cf 77 1 (decide_eq_false (by omega))).1, hw]; congr 1; omega) h
/-- the model asks for the next head or tail -/
theorem cp_176y (hw : S.1 83 68 = Int32.ofNat (w + 1)) (hs : S.1 83 67 = Int32.ofNat sh) (hs2 : sh < 20) (hw2 : w < 64) {o1 : Option Value} {c : Int32} (hc : S.1 129 w = c) (h : cm_At (am_XX L xs) (d + 2) 256 0 [some (.ref 83), some (.int c)] [] (cm_wI (cm_wI S 83 68 (Int32.ofNat w)) 83 67 (Int32.ofNat (sh + 1))) (fun r S9 k10 => cm_r0 (K (.inl none) S9 k10) (fun e11 => K (.inr e11) S9 k10) r)) : cm_At (am_XX L xs) (d + 3) 262 176 [some (.ref 83), o1] [] S K := by
  refine cx_262_176 _ ?_
  intro x1 h1
  rw [h1, hw]
  refine ⟨fun hc => absurd hc (dw_nz (by omega)), fun _ => ?_⟩
  intro x2 h2
  rw [h2, show Int32.ofNat (w + 1) - 1 = Int32.ofNat w from cp_sb (b := 1) (by omega)]
  intro S3 h3
  rw [h3]
  intro x4 h4
  rw [h4, cp_wI1, if_neg (by omega), hs]
  refine ⟨fun hc => absurd ((cp_inj (b := 20) (by omega) (by omega)).mp hc) (by omega), fun _ => ?_⟩
  intro x5 h5
  rw [h5, show Int32.ofNat sh + 1 = Int32.ofNat (sh + 1) from cp_ad (b := 1)]
  intro S6 h6
  rw [h6]
  intro x7 h7
  rw [h7, cp_wI1, if_neg (by omega), cp_wI1, if_pos ⟨rfl, rfl⟩]
  refine ⟨cp_in (by omega) (by decide), ?_⟩
  rw [cp_cl (n := w) (by omega)]
  intro x8 h8
  rw [h8, cp_wI1, if_neg (by omega), cp_wI1, if_neg (by omega), hc]
  refine h.mono (fun r S9 k9 hk => ?_)
  match r, hk with
  | .inl none, hk => exact cx_262_249 _ (by unfold cm_sh; exact hk)
  | .inr e, hk => exact hk
/-- what is left over is noted, and the run ends -/
theorem dw_dr {o r : Nat} (ho : o ≤ 2) (hr : r < 8192) : ∀ (k : Nat) (S : cm_S), k < 64 → S.1 83 68 = Int32.ofNat k → (k = 0 ∨ S.1 83 67 = Int32.ofNat 20) → S.1 83 65 = -1 → S.1 83 40 = -1 → S.1 83 63 = -1 → S.1 83 59 = Int32.ofNat 0 → S.1 83 44 = Int32.ofNat r → S.1 121 r = Int32.ofNat o → ∀ (L : Nat) (xs : Nat → Int32) (d : Nat) (K : cm_K) (q1 : Int32) (o1 : Option Value), K (.inl (some (.int (Int32.ofNat o)))) (me_drs k (Int32.ofNat o) S) 0 → cm_At (am_XX L xs) (d + 3) 262 176 [some (.ref 83), o1] [] S (fun r S6 k7 => cm_r0 (cm_At (am_XX L xs) (d + 3 + 1) 263 15 [some (.ref 83), some (.int q1)] [] S6 (cm_sh K k7)) (fun e8 => K (.inr e8) S6 k7) r)
  | 0, S, hk, h68, h67, h65, h40, h63, h59, h44, h121, L, xs, d, K, q1, o1, h => by
    refine cx_262_176 _ ?_
    intro x1 h1
    rw [h1, h68]
    refine ⟨fun _ => ?_, fun hc => absurd rfl hc⟩
    intro x2 h2
    rw [h2, h44]
    refine ⟨cp_in hr (by decide), ?_⟩
    rw [cp_cl (by omega)]
    intro x3 h3
    rw [h3, h121]
    intro S4 h4
    rw [h4]
    refine cp_r0 ?_
    refine cx_263_15 _ ?_
    intro x5 h5
    rw [h5, cp_wI1, if_pos ⟨rfl, rfl⟩]
    refine ⟨fun hc => absurd hc (cp_m1 (by omega)), fun _ => ?_⟩
    intro x6 h6
    rw [h6]
    exact h
  | k + 1, S, hk, h68, h67, h65, h40, h63, h59, h44, h121, L, xs, d, K, q1, o1, h => by
    have h20 := h67.resolve_left (by omega)
    refine cx_262_176 _ ?_
    intro x1 h1
    rw [h1, h68]
    refine ⟨fun hc => absurd hc (dw_nz (by omega)), fun _ => ?_⟩
    intro x2 h2
    rw [h2, show Int32.ofNat (k + 1) - 1 = Int32.ofNat k from cp_sb (b := 1) (by omega)]
    intro S3 h3
    rw [h3]
    intro x4 h4
    rw [h4, cp_wI1, if_neg (by omega), h20]
    refine ⟨fun _ => ?_, fun hc => absurd rfl hc⟩
    refine cp_261 (cp_r0 ?_)
    refine cx_262_249 _ ?_
    try dsimp only [cm_sh]
    refine cp_r0 ?_
    have fS : cf_W (fun b j => decide (b = 83 ∧ (j = 68 ∨ j = 71))) S (me_pr (cm_wI S 83 68 (Int32.ofNat k)) 5) := cf_tr (cf_wI (decide_eq_true (by omega))) (cf_mono me_pr_cf (fun b j h => decide_eq_true (by have h := of_decide_eq_true h; omega)))
    have e68 : (me_pr (cm_wI S 83 68 (Int32.ofNat k)) 5).1 83 68 = Int32.ofNat k := by rw [(me_pr_cf 83 68 (decide_eq_false (by omega))).1, cp_wI1, if_pos ⟨rfl, rfl⟩]
    have h' : K (.inl (some (.int (Int32.ofNat o)))) (me_drs k (Int32.ofNat o) (me_pr (cm_wI S 83 68 (Int32.ofNat k)) 5)) 0 := h
    generalize me_pr (cm_wI S 83 68 (Int32.ofNat k)) 5 = S5 at fS e68 h' ⊢
    refine cx_263_15 _ ?_
    intro x5 h5
    rw [h5, (fS 83 40 (decide_eq_false (by omega))).1, h40]
    refine ⟨fun _ => ?_, fun hc => absurd rfl hc⟩
    intro x6 h6
    rw [h6, (fS 83 63 (decide_eq_false (by omega))).1, h63]
    refine ⟨fun _ => ?_, fun hc => absurd rfl hc⟩
    intro x7 h7
    rw [h7]
    refine ⟨fun _ => ?_, fun hc => absurd rfl hc⟩
    intro x8 h8
    rw [h8, (fS 83 59 (decide_eq_false (by omega))).1, h59]
    refine ⟨fun hc => absurd hc (by decide), fun _ => ?_⟩
    refine cx_262_0 ?_
    intro x9 h9
    rw [h9, (fS 83 65 (decide_eq_false (by omega))).1, h65]
    refine ⟨fun _ => ?_, fun hc => absurd rfl hc⟩
    have := dw_dr ho hr k S5 (by omega) e68 (Or.inr ((fS 83 67 (decide_eq_false (by omega))).1.trans h20)) ((fS 83 65 (decide_eq_false (by omega))).1.trans h65) ((fS 83 40 (decide_eq_false (by omega))).1.trans h40) ((fS 83 63 (decide_eq_false (by omega))).1.trans h63) ((fS 83 59 (decide_eq_false (by omega))).1.trans h59) ((fS 83 44 (decide_eq_false (by omega))).1.trans h44) ((fS 121 r (decide_eq_false (by omega))).1.trans h121) L xs d K q1 none h'
    simp only [dk_sh0, Nat.add_zero]
    exact this
end CPa31
