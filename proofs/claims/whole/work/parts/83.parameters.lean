/-! ## 83 the model finds what is needed of definitions -/
def cW_fn (g b j : Nat) : Bool := decide (b = 108 ∧ j = g ∨ b = 109 ∧ 4 * g ≤ j ∧ j < 4 * g + 4 ∨ b = 111 ∧ 4 * g ≤ j ∧ j < 4 * g + 4 ∨ b = 110 ∧ j = g)
def cW_fi (b _j : Nat) : Bool := decide (108 ≤ b ∧ b ≤ 112)
theorem ct_pd_lf {n : Nat} : ct_pd n .leaf = 0 := by
  rcases n with _ | n
  · rfl
  · rfl
theorem ct_cs {t : ct_T} (hw : ct_wf t) (hn : ¬ t = .leaf) : ∃ e a b c, t = ct_nd e a b c :=
  ct_ind (P := fun t => ¬ t = .leaf → ∃ e a b c, t = ct_nd e a b c) (fun h => absurd rfl h) (fun e a b c _ _ _ _ _ => ⟨e, a, b, c, rfl⟩) t hw hn
theorem cu_in_lf {n : Nat} : cu_in n .leaf = .leaf := by
  rcases n with _ | n
  · rfl
  · rfl
section CP83
variable {L : Nat} {xs : Nat → Int32} {d : Nat} {T V : Nat → ct_T}
/-- the parameters of a definition -/
theorem cp_243w {g : Nat} {K : cm_K} (hg : g < 8) : ∀ (n m : Nat) (u : ct_T), n + m = 4 → ct_wf u → ∀ (S : cm_S) (p : Int32) (fp : List Nat), cl_t S u p fp → ¬ u = .leaf → S.1 108 g = Int32.ofNat m →
    (∀ S2 o2, cf_W (cW_fn g) S S2 → S2.2 = S.2 → S2.1 108 g = Int32.ofNat (m + ct_pd n u) → (∀ k, k < ct_pd n u → S2.1 109 (4 * g + (m + k)) = cu_pn k u ∧ S2.1 111 (4 * g + (m + k)) = 1) → (∀ k, k < m → S2.1 109 (4 * g + k) = S.1 109 (4 * g + k) ∧ S2.1 111 (4 * g + k) = S.1 111 (4 * g + k)) → (∃ fq, cl_t S2 (cu_in n u) (S2.1 110 g) fq) → cm_At (am_XX L xs) (d + 1) 243 2 [some (.ref 83), some (.int (Int32.ofNat (g + 1))), o2, none, none] [] S2 K) →
    cm_At (am_XX L xs) (d + 1) 243 38 [some (.ref 83), some (.int (Int32.ofNat g)), some (.int p), none, none] [] S K := by
  intro n
  induction n with
  | zero =>
    intro m u hm hw S p fp ht hn h8 k
    have hm4 : m = 4 := by omega
    subst hm4
    obtain ⟨e, a, b, c, rfl⟩ := ct_cs hw hn
    have ht0 := ht
    obtain ⟨i, fa, fb, fc, rfl, h2, h3, h4, h5, h6, rfl⟩ := ht
    have cf : cf_W (cW_fn g) S (cm_wI S 110 g (Int32.ofNat i)) := cf_wI (decide_eq_true (by omega))
    have fin := fun (o2 : Option Value) => k (cm_wI S 110 g (Int32.ofNat i)) o2 cf rfl (by rw [cp_wI1, if_neg (by omega)]; exact h8) (fun k hk => absurd hk (by show ¬ k < 0; omega)) (fun k hk => by rw [cp_wI1, if_neg (by omega), cp_wI1, if_neg (by omega)]; exact ⟨rfl, rfl⟩) ⟨i :: (fa ++ (fb ++ fc)), by
      rw [cp_wI1, if_pos ⟨rfl, rfl⟩]
      exact cl_t_fr cf (fun b j q1 q2 => decide_eq_false (by omega)) hw ht0⟩
    refine cx_243_38 _ _ ⟨fun h => absurd h (cp_m1 (by omega)), fun _ => ⟨cp_in h2 (by decide), ?_⟩⟩
    rw [cp_cl (by omega)]
    rintro _ rfl
    rw [cp_cl (by omega), h8, show Int32.ofNat g + 1 = Int32.ofNat (g + 1) from cp_ad (b := 1)]
    refine ⟨fun _ => ⟨cp_in hg (by decide), ?_⟩, fun _ => ⟨cp_in hg (by decide), ?_⟩⟩
    · rintro _ rfl
      refine ⟨fun h => absurd h (by decide), fun _ => ⟨cp_in hg (by decide), ?_⟩⟩
      rintro _ rfl
      exact fin _
    · rintro _ rfl
      exact fin _
  | succ n ih =>
    intro m u hm hw S p fp ht hn h8 k
    obtain ⟨e, a, b, c, rfl⟩ := ct_cs hw hn
    have ht0 := ht
    obtain ⟨i, fa, fb, fc, rfl, h2, h3, h4, h5, h6, rfl⟩ := ht
    have e1 : S.1 92 i = e.1 := by rw [← h3]
    have e3 : S.1 97 i = e.2.2.1 := by rw [← h3]
    have hm3 : m < 4 := by omega
    refine cx_243_38 _ _ ⟨fun h => absurd h (cp_m1 (by omega)), fun _ => ⟨cp_in h2 (by decide), ?_⟩⟩
    rw [cp_cl (by omega)]
    rintro _ rfl
    rw [cp_cl (by omega), e1, h8, show Int32.ofNat g + 1 = Int32.ofNat (g + 1) from cp_ad (b := 1)]
    have ei : (4 : Int32) * Int32.ofNat g + Int32.ofNat m = Int32.ofNat (4 * g + m) := by rw [show (4 : Int32) = Int32.ofNat 4 from rfl, cp_ml, cp_ad]
    by_cases k4 : e.1 = 4
    · refine ⟨fun _ => ⟨cp_in hg (by decide), ?_⟩, fun h => absurd k4 h⟩
      rintro _ rfl
      refine ⟨fun _ => ⟨cp_in hg (by decide), ?_⟩, fun h => absurd (by rw [show (4 : Int32) = Int32.ofNat 4 from rfl, cp_lt (by omega) (by omega)]; exact hm3) h⟩
      rintro _ rfl
      rw [ei]
      refine ⟨cp_in h2 (by decide), ?_⟩
      rintro _ rfl
      refine ⟨cp_in (by omega) (by decide), ?_⟩
      rintro _ rfl
      rw [cp_cl (by omega), e3]
      refine ⟨cp_in hg (by decide), ?_⟩
      rintro _ rfl
      rw [cp_wI1, if_neg (by omega), h8, ei]
      refine ⟨cp_in (by omega) (by decide), ?_⟩
      rintro _ rfl
      rw [cp_cl (by omega)]
      refine ⟨cp_in hg (by decide), ?_⟩
      rintro _ rfl
      rw [cp_wI1, if_neg (by omega), cp_wI1, if_neg (by omega), h8]
      refine ⟨cp_in hg (by decide), ?_⟩
      rintro _ rfl
      refine ⟨cp_in h2 (by decide), ?_⟩
      rintro _ rfl
      have cf : cf_W (cW_fn g) S (cm_wI (cm_wI (cm_wI S 109 (4 * g + m) e.2.2.1) 111 (4 * g + m) (vp_nar .boolean 1)) 108 g (Int32.ofNat m + 1)) := cf_tr (cf_tr (cf_wI (decide_eq_true (by omega))) (cf_wI (decide_eq_true (by omega)))) (cf_wI (decide_eq_true (by omega)))
      have w5 := (ct_wf_nd hw).2.2.2.2.1
      rw [cp_wI1, if_neg (by omega), cp_wI1, if_neg (by omega), cp_wI1, if_neg (by omega)]
      refine ih (m + 1) a (by omega) w5 _ _ fa (cl_t_fr cf (fun b j q1 q2 => decide_eq_false (by omega)) w5 h4) (ct_q1 hw (Or.inl k4)).1 (by rw [cp_wI1, if_pos ⟨rfl, rfl⟩]; exact cp_ad (b := 1)) (fun S2 o2 c2 r2 q8 qk ql qi => ?_)
      refine k S2 o2 (cf_tr cf c2) (r2.trans rfl) ?_ ?_ ?_ ?_
      · rw [q8, ct_pd_nd, if_pos k4, show m + 1 + ct_pd n a = m + (1 + ct_pd n a) by omega]
      · intro kk hkk
        rw [ct_pd_nd, if_pos k4] at hkk
        rcases kk with _ | kk
        · obtain ⟨g1, g2⟩ := ql m (by omega)
          rw [Nat.add_zero, g1, g2]
          refine ⟨?_, ?_⟩
          · rw [cp_wI1, if_neg (by omega), cp_wI1, if_neg (by omega), cp_wI1, if_pos ⟨rfl, rfl⟩]; rfl
          · rw [cp_wI1, if_neg (by omega), cp_wI1, if_pos ⟨rfl, rfl⟩]; rfl
        · have := qk kk (by omega)
          rw [show m + (kk + 1) = m + 1 + kk by omega]
          exact this
      · intro kk hkk
        obtain ⟨g1, g2⟩ := ql kk (by omega)
        rw [g1, g2]
        refine ⟨?_, ?_⟩
        · rw [cp_wI1, if_neg (by omega), cp_wI1, if_neg (by omega), cp_wI1, if_neg (by omega)]
        · rw [cp_wI1, if_neg (by omega), cp_wI1, if_neg (by omega), cp_wI1, if_neg (by omega)]
      · rw [cu_in_nd, if_pos k4]
        exact qi
    · refine ⟨fun h => absurd h k4, fun _ => ⟨cp_in hg (by decide), ?_⟩⟩
      rintro _ rfl
      have cf : cf_W (cW_fn g) S (cm_wI S 110 g (Int32.ofNat i)) := cf_wI (decide_eq_true (by omega))
      have hp : ct_pd (n + 1) (ct_nd e a b c) = 0 := by rw [ct_pd_nd, if_neg k4]
      refine k (cm_wI S 110 g (Int32.ofNat i)) _ cf rfl (by rw [cp_wI1, if_neg (by omega), hp]; exact h8) (fun k hk => absurd hk (by rw [hp]; omega)) (fun k hk => by rw [cp_wI1, if_neg (by omega), cp_wI1, if_neg (by omega)]; exact ⟨rfl, rfl⟩) ⟨i :: (fa ++ (fb ++ fc)), ?_⟩
      rw [cp_wI1, if_pos ⟨rfl, rfl⟩, cu_in_nd, if_neg k4]
      exact cl_t_fr cf (fun b j q1 q2 => decide_eq_false (by omega)) hw ht0
end CP83
