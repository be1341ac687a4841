/-! ## 80 the model finds what is needed in a node -/
/-- what the model keeps of definitions for this -/
def cl_q (S : cm_S) (T U : Nat → ct_T) (Q : Nat → Nat → Bool) : Prop := cl_i S T ∧ ∀ g, g < 8 → S.1 108 g = Int32.ofNat (cu_M U g) ∧ (T g = .leaf → cu_M U g = 0) ∧ ∀ k, k < cu_M U g → S.1 111 (4 * g + k) = if Q g k = true then 1 else 0
def cu_ol (t : ct_T) : Prop := ∀ e, e ∈ ct_fl t → e.2.2.1 = -1 ∨ (0 ≤ e.2.2.1.toInt ∧ e.2.2.1.toInt < 320)
theorem cu_ol_nd {e : ct_D} {a b c : ct_T} (h : cu_ol (ct_nd e a b c)) : (e.2.2.1 = -1 ∨ (0 ≤ e.2.2.1.toInt ∧ e.2.2.1.toInt < 320)) ∧ cu_ol a ∧ cu_ol b ∧ cu_ol c := ct_fl_sub h
theorem ct_nws_vl {e : ct_D} (h : ct_nw e) (hk : e.1 = 2 ∨ e.1 = 6) (ho : e.2.2.1 = -1 ∨ (0 ≤ e.2.2.1.toInt ∧ e.2.2.1.toInt < 320)) : ∃ v, v < 320 ∧ e.2.2.1 = Int32.ofNat v ∧ e.2.2.1.toNatClampNeg = v := by
  have h1 : ¬ e.2.2.1 = -1 := (h.1 (by rcases hk with h | h; exact Or.inl h; exact Or.inr (Or.inr (Or.inl h)))).1
  rcases ho with ho | ho
  · exact absurd ho h1
  · obtain ⟨v, hv, h2, h3⟩ := cp_of ho.1
    exact ⟨v, by omega, hv, by rw [hv, cp_cl h3]⟩
/-- what finding what is needed in a tree comes to -/
def cl_ned (L : Nat) (xs : Nat → Int32) (T U : Nat → ct_T) (Q : Nat → Nat → Bool) (u : ct_T) : Prop := ∀ (D : Nat) (S : cm_S) (p : Int32) (fp : List Nat) (l : Nat) (K : cm_K), 3 * ct_sz u + 4 ≤ D → cl_t S u p fp → ¬ u = .leaf → ct_nus u → cu_ol u → ct_nws u → cl_q S T U Q → l + ct_sz u ≤ 396 →
  (∀ S2, cf_W (cW_lv l (l + ct_sz u)) S S2 → S2.1 = S.1 → cl_sb S2 l (cu_nq Q (cu_M U) u) → K (.inl none) S2 0) →
  cm_At (am_XX L xs) D 241 0 [some (.ref 83), some (.int p), some (.int (Int32.ofNat l)), none, none] [] S K
theorem cl_t_fr {W : Nat → Nat → Bool} {S S2 : cm_S} (hc : cf_W W S S2) (hd : ∀ b j, 92 ≤ b → b ≤ 98 → W b j = false) {t : ct_T} (hw : ct_wf t) {p : Int32} {fp : List Nat} (h : cl_t S t p fp) : cl_t S2 t p fp := cl_t_cf hc t hw p fp (fun b x q1 q2 _ => hd b x q1 q2) h
section CP80
variable {L : Nat} {xs : Nat → Int32} {T U : Nat → ct_T} {Q : Nat → Nat → Bool}
theorem cl_q_e {S S2 : cm_S} (h : S2.1 = S.1) (hq : cl_q S T U Q) : cl_q S2 T U Q := by
  unfold cl_q cl_i at hq ⊢
  rw [h]
  exact hq
/-- the variables that are needed in a part are added -/
theorem cp_240 {u : ct_T} (ih : cl_ned L xs T U Q u) {D : Nat} {S : cm_S} {p : Int32} {fp : List Nat} {l : Nat} {K : cm_K} {f : Nat → Bool} (hD : 3 * ct_sz u + 5 ≤ D) (ht : cl_t S u p fp) (hn : ¬ u = .leaf) (hnu : ct_nus u) (hok : cu_ol u) (hnw : ct_nws u) (hq : cl_q S T U Q) (hl : l + 1 + ct_sz u ≤ 396) (hf : cl_sb S l f)
    (k : ∀ S2, cf_W (cW_lv l (l + 1 + ct_sz u)) S S2 → S2.1 = S.1 → cl_sb S2 l (fun v => f v || cu_nq Q (cu_M U) u v) → K (.inl none) S2 0) :
    cm_At (am_XX L xs) D 240 0 [some (.ref 83), some (.int (Int32.ofNat l)), some (.int p)] [] S K := by
  obtain ⟨D, rfl⟩ : ∃ d, D = d + 2 := ⟨D - 2, by omega⟩
  refine cx_240_0 _ _ ?_
  rw [show Int32.ofNat l + 1 = Int32.ofNat (l + 1) from cp_ad (b := 1)]
  refine ih (D + 1) S p fp (l + 1) _ (by omega) ht hn hnu hok hnw hq (by omega) (fun S1 c1 e1 s1 => cp_r0 ?_)
  refine cp_239 (by omega) (by omega) (by omega) (fun S2 c2 e2 s2 => cp_r0 ?_)
  have hw := fun j (h1 : 5 * l ≤ j) (h2 : j < 5 * l + 5) => (decide_eq_false (by omega) : cW_lv (l + 1) (l + 1 + ct_sz u) 112 j = false)
  exact k S2 (cf_tr (cf_mono c1 (fun b j h => decide_eq_true (by have h := of_decide_eq_true h; omega))) (cf_mono c2 (fun b j h => decide_eq_true (by have h := of_decide_eq_true h; omega)))) (e2.trans e1) (s2 _ _ (cl_sb_cf c1 hw hf) s1)
/-- the walk to what is applied -/
theorem cp_242w {d n l : Nat} {q1 : Int32} {K : cm_K} {S : cm_S} (hq : cl_q S T U Q) (hbig : n < 100000) : ∀ u, ct_wf u → ∀ (m : Nat) (p : Int32) (fp : List Nat), cl_t S u p fp → ¬ u = .leaf → ct_nus u → cu_ol u → ct_nws u → m + ct_sz u ≤ n →
    (cu_gl u = none → ∀ h hp hf (K2 : cm_K), ct_wf h → ¬ h = .leaf → cl_t S h hp hf → ct_nus h → cu_ol h → ct_nws h → ct_sz h ≤ ct_sz u → (∀ v, cu_nq Q (cu_M U) h v = cu_nq Q (cu_M U) u v) → (ct_sz h < ct_sz u ∨ ∀ e a b c, u = ct_nd e a b c → ¬ e.1 = 5) → (∀ S2, K (.inl none) S2 0 → K2 (.inl none) S2 0) → cm_At (am_XX L xs) d 240 0 [some (.ref 83), some (.int (Int32.ofNat l)), some (.int hp)] [] S K2) →
    (∀ g q4, g < 8 → cu_gl u = some g → cm_At (am_XX L xs) (d + 1) 242 102 [some (.ref 83), some (.int q1), some (.int (Int32.ofNat l)), some (.int (Int32.ofNat (m + cu_ar u))), some (.int q4), some (.int (Int32.ofNat g)), some (.int (Int32.ofNat (if cu_M U g ≤ m + cu_ar u then cu_M U g else 0))), some (.int q1), some (.int (Int32.ofNat (m + cu_ar u) - 1))] [] S K) →
    cm_At (am_XX L xs) (d + 1) 242 5 [some (.ref 83), some (.int q1), some (.int (Int32.ofNat l)), some (.int (Int32.ofNat m)), some (.int p), none, none, none, none] [] S K :=
  ct_ind (fun m p fp _ hn => absurd rfl hn) (fun e a b c hw iha ihb ihc m p fp ht hn hnu hol hnw hle k1 k2 => by
    have hg : cu_gl (ct_nd e a b c) = if e.1 = 5 then cu_gl a else if e.1 = 3 then some e.2.1.toInt32.toNatClampNeg else none := rfl
    have ha : cu_ar (ct_nd e a b c) = if e.1 = 5 then cu_ar a + 1 else 0 := rfl
    have ht0 := ht
    obtain ⟨i, fa, fb, fc, rfl, h2, h3, h4, h5, h6, rfl⟩ := ht
    have e1 : S.1 92 i = e.1 := by rw [← h3]
    have e2 : S.2 93 i = e.2.1 := by rw [← h3]
    obtain ⟨w1, w2, w3, w4, w5, w6, w7⟩ := ct_wf_nd hw
    have hle2 := hle
    rw [ct_sz_nd] at hle2
    have har := cu_ar_sz a w5
    refine cx_242_5 _ _ _ _ ⟨cp_in h2 (by decide), ?_⟩
    rw [cp_cl (by omega)]
    rintro _ rfl
    rw [e1]
    refine ⟨fun hk => ⟨cp_in h2 (by decide), ?_⟩, fun hk => ⟨cp_in h2 (by decide), ?_⟩⟩
    · rintro _ rfl
      rw [show Int32.ofNat m + 1 = Int32.ofNat (m + 1) from cp_ad (b := 1)]
      rw [hg, if_pos hk] at k1 k2
      rw [ha, if_pos hk] at k2
      rw [show m + (cu_ar a + 1) = m + 1 + cu_ar a by omega] at k2
      exact iha (m + 1) _ fa h4 (ct_q2 hw (Or.inl hk)).1 (ct_nus_nd hnu).2.1 (cu_ol_nd hol).2.1 (ct_nws_nd hnw).2.1 (by omega) (fun hgl h hp hf K2 q1 q2 q3 q4 q5 q6 q7 q8 q9 q10 => k1 hgl h hp hf K2 q1 q2 q3 q4 q5 q6 (by rw [ct_sz_nd]; omega) (fun v => (q8 v).trans (cu_n2_no hk hgl).symm) (Or.inl (by rw [ct_sz_nd]; omega)) q10) k2
    · rintro _ rfl
      rw [hg, if_neg hk] at k1 k2
      rw [ha, if_neg hk] at k2
      refine ⟨fun h3k => ⟨cp_in h2 (by decide), ?_⟩, fun h3k => ?_⟩
      · rw [if_pos h3k] at k2
        rintro _ rfl
        rw [e2]
        have hnum := (ct_nus_nd hnu).1.1 h3k
        have hc : e.2.1.toInt32 = Int32.ofNat e.2.1.toInt32.toNatClampNeg ∧ e.2.1.toInt32.toNatClampNeg < 8 := cu_i32 hnum
        generalize e.2.1.toInt32.toNatClampNeg = g at hc k2
        rw [hc.1]
        have k3 := k2 g (Int32.ofNat i) hc.2 rfl
        obtain ⟨q8, q9, _⟩ := hq.2 g hc.2
        have hM := cu_M_le (U := U) (g := g)
        refine ⟨cp_in hc.2 (by decide), ?_⟩
        rintro _ rfl
        rw [Nat.add_zero] at k3
        by_cases hl : T g = .leaf
        · rw [(hq.1 g hc.2).1 hl]
          rw [q9 hl, if_pos (Nat.zero_le _)] at k3
          exact ⟨fun _ => k3, fun h => absurd rfl h⟩
        · rw [(hq.1 g hc.2).2 hl]
          refine ⟨fun h => absurd h (by decide), fun _ => ⟨cp_in hc.2 (by decide), ?_⟩⟩
          rintro _ rfl
          rw [q8, cp_lt (by omega) (by omega)]
          refine ⟨fun hlt => ?_, fun hlt => ⟨cp_in hc.2 (by decide), ?_⟩⟩
          · rw [if_neg (by omega)] at k3
            exact k3
          · rintro _ rfl
            rw [if_pos (by omega)] at k3
            exact k3
      · rw [if_neg h3k] at k1
        exact k1 rfl (ct_nd e a b c) (Int32.ofNat i) _ _ hw hn ht0 hnu hol hnw (Nat.le_refl _) (fun v => rfl) (Or.inr (fun e' a' b' c' hh => by obtain ⟨rfl, _, _, _⟩ := ct_nd_inj hh; exact hk)) (fun S2 h => h))
/-- the arguments that are needed are added, from the last one on -/
theorem cp_242l {D n l all g : Nat} {q1 q4 : Int32} (hQ : ∀ g k, Q g k = true → k < cu_M U g) (hih : ∀ v, ct_wf v → ct_sz v ≤ n → cl_ned L xs T U Q v) (hg : g < 8) (hD : 3 * n + 6 ≤ D) (hl : l + 1 + n ≤ 396) (hall : all < 100000) : ∀ u, ct_wf u → ∀ (p : Int32) (fp : List Nat) (S : cm_S) (f : Nat → Bool) (K : cm_K), cl_t S u p fp → cu_gl u = some g → ct_nus u → cu_ol u → ct_nws u → ct_sz u ≤ n + 1 → cl_q S T U Q → cl_sb S l f →
    (∀ S2, cf_W (cW_lv l (l + 1 + n)) S S2 → S2.1 = S.1 → cl_sb S2 l (fun v => f v || (decide (cu_M U g ≤ all) && (cu_n2 Q (cu_M U) u v).2)) → K (.inl none) S2 0) →
    cm_At (am_XX L xs) D 242 102 [some (.ref 83), some (.int q1), some (.int (Int32.ofNat l)), some (.int (Int32.ofNat all)), some (.int q4), some (.int (Int32.ofNat g)), some (.int (Int32.ofNat (if cu_M U g ≤ all then cu_M U g else 0))), some (.int p), some (.int (Int32.ofNat (cu_ar u) - 1))] [] S K :=
  ct_ind (fun p fp S f K _ hgl => by cases hgl) (fun e a b c hw iha ihb ihc p fp S f K ht hgl hnu hol hnw hsz hq hsb k => by
    have hga : cu_gl (ct_nd e a b c) = if e.1 = 5 then cu_gl a else if e.1 = 3 then some e.2.1.toInt32.toNatClampNeg else none := rfl
    have har : cu_ar (ct_nd e a b c) = if e.1 = 5 then cu_ar a + 1 else 0 := rfl
    rw [hga] at hgl
    rw [har]
    obtain ⟨D, rfl⟩ : ∃ d, D = d + 1 := ⟨D - 1, by omega⟩
    by_cases h5k : e.1 = 5
    · rw [if_pos h5k] at hgl ⊢
      obtain ⟨pa, pb, pc⟩ := ct_q2 hw (Or.inl h5k)
      obtain ⟨i, fa, fb, fc, rfl, h2, h3, h4, h5, h6, rfl⟩ := ht
      obtain ⟨w1, w2, w3, w4, w5, w6, w7⟩ := ct_wf_nd hw
      rw [ct_sz_nd] at hsz
      have har2 := cu_ar_sz a w5
      have sa0 := ct_sz_ne w5 pa
      rw [cp_s1]
      have n2 : ∀ v, (cu_n2 Q (cu_M U) (ct_nd e a b c) v).2 = ((cu_n2 Q (cu_M U) a v).2 || (Q g (cu_ar a) && (cu_n2 Q (cu_M U) b v).1)) := fun v => by
        rw [cu_n2_nd, if_neg (by rw [h5k]; decide), if_pos h5k, hgl]; rfl
      have go : ∀ (S2 : cm_S) (f2 : Nat → Bool) (K2 : cm_K), cf_W (cW_lv l (l + 1 + n)) S S2 → S2.1 = S.1 → cl_sb S2 l f2 → (∀ v, (f2 v || (decide (cu_M U g ≤ all) && (cu_n2 Q (cu_M U) a v).2)) = (f v || (decide (cu_M U g ≤ all) && (cu_n2 Q (cu_M U) (ct_nd e a b c) v).2))) → (∀ S3, K (.inl none) S3 0 → K2 (.inl none) S3 0) → cm_At (am_XX L xs) (D + 1) 242 102 [some (.ref 83), some (.int q1), some (.int (Int32.ofNat l)), some (.int (Int32.ofNat all)), some (.int q4), some (.int (Int32.ofNat g)), some (.int (Int32.ofNat (if cu_M U g ≤ all then cu_M U g else 0))), some (.int (S.1 94 i)), some (.int (Int32.ofNat (cu_ar a) + (-1)))] [] S2 K2 := by
        intro S2 f2 K2 c2 e2 hs2 hE k2
        rw [cp_pm1]
        refine iha _ fa S2 f2 K2 (cl_t_fr c2 (fun b j q1 q2 => decide_eq_false (by omega)) w5 h4) hgl (ct_nus_nd hnu).2.1 (cu_ol_nd hol).2.1 (ct_nws_nd hnw).2.1 (by omega) (cl_q_e e2 hq) hs2 (fun S3 c3 e3 s3 => k2 S3 (k S3 (cf_tr c2 c3) (e3.trans e2) ?_))
        rw [← funext hE]
        exact s3
      have hM := cu_M_le (U := U) (g := g)
      refine cx_242_102 _ _ _ _ _ _ _ _ ⟨fun h => absurd h (cp_nn (by omega)), fun _ => ⟨fun hlt => ?_, fun hlt => ?_⟩⟩
      · have hlt2 : cu_M U g ≤ all ∧ cu_ar a < cu_M U g := by
          by_cases hle : cu_M U g ≤ all
          · rw [if_pos hle, cp_lt (by omega) (by omega)] at hlt
            exact ⟨hle, hlt⟩
          · rw [if_neg hle, cp_lt (by omega) (by omega)] at hlt
            omega
        have ei : (4 : Int32) * Int32.ofNat g + Int32.ofNat (cu_ar a) = Int32.ofNat (4 * g + cu_ar a) := by rw [show (4 : Int32) = Int32.ofNat 4 from rfl, cp_ml, cp_ad]
        rw [ei]
        refine ⟨cp_in (by omega) (by decide), ?_⟩
        rintro _ rfl
        rw [cp_cl (by omega), (hq.2 g hg).2.2 (cu_ar a) (by omega)]
        cases hqa : Q g (cu_ar a) with
        | false =>
          rw [if_neg (by decide)]
          refine ⟨fun _ => ⟨cp_in h2 (by decide), ?_⟩, fun h => absurd rfl h⟩
          rintro _ rfl
          rw [cp_cl (by omega)]
          exact go S f K cf_rfl rfl hsb (fun v => by rw [n2, hqa, Bool.false_and, Bool.or_false]) (fun S3 h => h)
        | true =>
          rw [if_pos rfl]
          refine ⟨fun h => absurd h (by decide), fun _ => ⟨cp_in h2 (by decide), ?_⟩⟩
          rintro _ rfl
          rw [cp_cl (by omega)]
          refine cp_240 (hih b w6 (by omega)) (D := D) (by omega) h5 pb (ct_nus_nd hnu).2.2.1 (cu_ol_nd hol).2.2.1 (ct_nws_nd hnw).2.2.1 hq (by omega) hsb (fun S2 c2 e2 s2 => cp_r0 ⟨cp_in h2 (by decide), ?_⟩)
          rintro _ rfl
          rw [e2]
          refine go S2 _ _ (cf_mono c2 (fun b j h => decide_eq_true (by have h := of_decide_eq_true h; omega))) e2 s2 (fun v => ?_) (fun S3 h => h)
          rw [n2, hqa, Bool.true_and, decide_eq_true hlt2.1, Bool.true_and, Bool.true_and, Bool.or_assoc, Bool.or_comm (cu_n2 Q (cu_M U) b v).1]
      · refine ⟨cp_in h2 (by decide), ?_⟩
        rintro _ rfl
        rw [cp_cl (by omega)]
        refine go S f K cf_rfl rfl hsb (fun v => ?_) (fun S3 h => h)
        by_cases hle : cu_M U g ≤ all
        · rw [if_pos hle, cp_lt (by omega) (by omega)] at hlt
          have hqf : Q g (cu_ar a) = false := by
            cases hq2 : Q g (cu_ar a) with
            | false => rfl
            | true => exact absurd (hQ _ _ hq2) hlt
          rw [n2, hqf, Bool.false_and, Bool.or_false]
        · rw [decide_eq_false hle, Bool.false_and, Bool.false_and]
    · rw [if_neg h5k] at hgl ⊢
      refine cx_242_102 _ _ _ _ _ _ _ _ ⟨fun _ => k S cf_rfl rfl ?_, fun h => absurd (by decide) h⟩
      have hE : ∀ v, (f v || (decide (cu_M U g ≤ all) && (cu_n2 Q (cu_M U) (ct_nd e a b c) v).2)) = f v := fun v => by rw [cu_n2_z h5k, Bool.and_false, Bool.or_false]
      rw [funext hE]
      exact hsb)
/-- what is needed in an application -/
theorem cp_242 {n : Nat} (hQ : ∀ g k, Q g k = true → k < cu_M U g) (hih : ∀ v, ct_wf v → ct_sz v ≤ n → cl_ned L xs T U Q v) {D l : Nat} {S : cm_S} {p : Int32} {fp : List Nat} {K : cm_K} {e : ct_D} {a b c : ct_T} (hw : ct_wf (ct_nd e a b c)) (h5k : e.1 = 5) (hsz : ct_sz (ct_nd e a b c) ≤ n + 1) (hD : 3 * n + 6 ≤ D) (hl : l + 1 + n ≤ 396) (ht : cl_t S (ct_nd e a b c) p fp) (hnu : ct_nus (ct_nd e a b c)) (hol : cu_ol (ct_nd e a b c)) (hnw : ct_nws (ct_nd e a b c)) (hq : cl_q S T U Q) (hsb : cl_sb S l (fun _ => false))
    (k : ∀ S2, cf_W (cW_lv l (l + 1 + n)) S S2 → S2.1 = S.1 → cl_sb S2 l (cu_nq Q (cu_M U) (ct_nd e a b c)) → K (.inl none) S2 0) :
    cm_At (am_XX L xs) D 242 0 [some (.ref 83), some (.int p), some (.int (Int32.ofNat l)), none, none, none, none, none, none] [] S K := by
  obtain ⟨D, rfl⟩ : ∃ d, D = d + 1 := ⟨D - 1, by omega⟩
  have hnl : ¬ ct_nd e a b c = .leaf := fun h => by cases h
  have har2 := cu_ar_sz _ hw
  refine cx_242_0 _ _ ?_
  refine cp_242w (n := n + 1) hq (by omega) (ct_nd e a b c) hw 0 p fp ht hnl hnu hol hnw (by omega) (fun hgl h hp hf K2 q1 q2 q3 q4 q5 q6 q7 q8 q9 hK => ?_) (fun g q4 hg hgl => ?_)
  · have hsh : ct_sz h ≤ n := by
      rcases q9 with q9 | q9
      · omega
      · exact absurd h5k (q9 e a b c rfl)
    refine cp_240 (hih h q1 hsh) (by omega) q3 q2 q4 q5 q6 hq (by omega) hsb (fun S2 c2 e2 s2 => hK S2 (k S2 (cf_mono c2 (fun b j h => decide_eq_true (by have h := of_decide_eq_true h; omega))) e2 ?_))
    rw [← funext q8]
    exact s2
  · rw [Nat.zero_add]
    refine cp_242l (n := n) hQ hih hg hD hl (by omega) (ct_nd e a b c) hw p fp S (fun _ => false) K ht hgl hnu hol hnw hsz hq hsb (fun S2 c2 e2 s2 => k S2 c2 e2 ?_)
    have hE : ∀ v, cu_nq Q (cu_M U) (ct_nd e a b c) v = (false || (decide (cu_M U g ≤ cu_ar (ct_nd e a b c)) && (cu_n2 Q (cu_M U) (ct_nd e a b c) v).2)) := fun v => by rw [Bool.false_or]; exact cu_n2_ch _ hw g hgl
    rw [funext hE]
    exact s2
end CP80
