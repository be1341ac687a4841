/-! ## 44 copied for all trees; copy and kept -/
def ct_oo (x : Int32) : List Int32 := if x = -1 then [] else [x]
theorem ct_ob_oo {e : ct_D} (h : ct_nw e) (h2 : ¬ e.1 = 2) : ct_ob e = ct_oo e.2.2.1 ++ ct_oo e.2.2.2 := by
  obtain ⟨q1, q2, q3⟩ := h
  unfold ct_ob ct_oo
  by_cases h12 : e.1 = 12
  · rw [if_pos h12, if_neg (q2 h12).1, if_neg (q2 h12).2.1]; rfl
  · rw [if_neg h12]
    by_cases h4 : e.1 = 4 ∨ e.1 = 6 ∨ e.1 = 7 ∨ e.1 = 8
    · have := q1 (Or.inr h4)
      rw [if_pos h4, if_neg this.1, if_pos this.2]; rfl
    · have := q3 (fun hc => by
        rcases hc with hc | hc | hc | hc | hc | hc
        · exact h2 hc
        · exact h4 (Or.inl hc)
        · exact h4 (Or.inr (Or.inl hc))
        · exact h4 (Or.inr (Or.inr (Or.inl hc)))
        · exact h4 (Or.inr (Or.inr (Or.inr hc)))
        · exact h12 hc)
      rw [if_neg h4, if_pos this.1, if_pos this.2]; rfl
theorem ct_ob_2 {e : ct_D} (h2 : e.1 = 2) : ct_ob e = [] := by
  unfold ct_ob
  rw [if_neg (fun hc => by rw [h2] at hc; exact absurd hc (by decide)), if_neg (fun hc => by rcases hc with hc | hc | hc | hc <;> (rw [h2] at hc; exact absurd hc (by decide)))]
section CP44
variable {L : Nat} {xs : Nat → Int32} {d : Nat}
theorem cp_200o {S : cm_S} {K : cm_K} {n : Nat} {P B R : List Int32} {x : Int32} (hB : B = P ++ (ct_oo x ++ R)) (hnd : B.Nodup) (hB0 : ∀ y, y ∈ B → 0 ≤ y.toInt ∧ y.toInt < 32768) (hn : n + B.length ≤ 32768) (hv : S.1 83 20 = Int32.ofNat (n + P.length)) (hst : cl_st S n P B)
    (k : ∀ S2, S2.1 83 20 = Int32.ofNat (n + (P ++ ct_oo x).length) → cl_st S2 n (P ++ ct_oo x) B → cf_W cW_rn S S2 → K (.inl (some (.int (ct_fr n B x)))) S2 0) :
    cm_At (am_XX L xs) (d + 2) 200 0 [some (.ref 83), some (.int x)] [] S K := by
  by_cases hx : x = -1
  · subst hx
    have ho : ct_oo (-1) = [] := if_pos rfl
    rw [ho, List.append_nil, ct_fr_m1 (fun y hy => (hB0 y hy).1)] at k
    exact cx_200_0 _ ⟨fun _ => k S hv hst cf_rfl, fun h => absurd rfl h⟩
  · have ho : ct_oo x = [x] := if_neg hx
    rw [ho] at hB k
    exact cp_200 (R := R) hB hnd (hB0 x (by rw [hB]; exact List.mem_append_right _ List.mem_cons_self)) (fun y hy => (hB0 y (by rw [hB]; exact List.mem_append_left _ hy)).1) hn hv hst k
theorem cp_201 {B : List Int32} {n : Nat} (hnd : B.Nodup) (hB0 : ∀ y, y ∈ B → 0 ≤ y.toInt ∧ y.toInt < 32768) (hn : n + B.length ≤ 32768) : ∀ u, ct_wf u → cl_cpy L xs B n u :=
  ct_ind (fun d S p fp P R sp nx l sp2 nx2 K ht hB hnb hnw hpb hcl hal hok hcap hdis hld hv hst k => by
    obtain ⟨rfl, _⟩ := hcl
    have ht : (([] : List Nat), sp, nx) = (l, sp2, nx2) := ht
    injection ht with t1 t2
    injection t2 with t2 t3
    subst t1; subst t2; subst t3
    refine cx_201_0 _ ⟨fun _ => k S (-1) ⟨rfl, rfl⟩ hal ?_ ?_ cf_rfl, fun h => absurd rfl h⟩
    · show _ = Int32.ofNat (n + (P ++ []).length); rw [List.append_nil]; exact hv
    · show cl_st S n (P ++ []) B; rw [List.append_nil]; exact hst) (fun e a b c hw iha ihb ihc d S p fp P R sp nx l sp2 nx2 K ht hB hnb hnw hpb hcl hal hok hcap hdis hld hv hst k => by
    obtain ⟨i, fa, fb, fc, rfl, h2, h3, h4, h5, h6, rfl⟩ := hcl
    obtain ⟨w1, w2, w3, w4, w5, w6, w7⟩ := ct_wf_nd hw
    obtain ⟨m0, m1, m2, m3⟩ := ct_nws_nd hnw
    obtain ⟨b0, b1, b2, b3⟩ := ct_nb_nd hnb
    have hm := cp_m1 (n := i) (by omega)
    rw [ct_sz_nd] at ht ⊢
    rw [ct_tk_add (n := 1)] at ht
    generalize ht1 : ct_tk 1 sp nx = t1 at ht
    obtain ⟨l1, sp1, nx1⟩ := t1
    generalize hta : ct_tk (ct_sz a) sp1 nx1 = ta
    obtain ⟨la, spa, nxa⟩ := ta
    generalize htb : ct_tk (ct_sz b) spa nxa = tb
    obtain ⟨lb, spb, nxb⟩ := tb
    generalize htc : ct_tk (ct_sz c) spb nxb = tc
    obtain ⟨lc, spc, nxc⟩ := tc
    have hall : ct_tk (ct_sz a + (ct_sz b + ct_sz c)) sp1 nx1 = (la ++ (lb ++ lc), spc, nxc) := by
      rw [ct_tk_add, hta]
      dsimp only
      rw [ct_tk_add, htb]
      dsimp only
      rw [htc]
    dsimp only at ht
    rw [hall] at ht
    injection ht with t1 t2
    injection t2 with t2 t3
    subst t1; subst t2; subst t3
    have hne : sp = [] → nx < 8192 := fun hs => by
      subst hs
      have g1 := (ct_tk_sp (n := 1) (sp := []) (nx := nx)).2.1
      have g2 := (ct_tk_sp (n := ct_sz a + (ct_sz b + ct_sz c)) (sp := sp1) (nx := nx1)).2.1
      rw [ht1] at g1
      rw [hall] at g2
      simp only [List.length_nil] at g1 g2
      omega
    rw [show d + (1 + (ct_sz a + (ct_sz b + ct_sz c))) + 3 = (d + (ct_sz a + (ct_sz b + ct_sz c)) + 3) + 1 by omega]
    refine cx_201_0 _ ⟨fun h => absurd h hm, fun _ => ⟨cp_in h2 (by decide), ?_⟩⟩
    rw [cp_cl (by omega)]
    rintro _ rfl
    refine cp_193 hal hok hne (fun S1 j hj1 hj al1 c1 row1 => cp_r1 ?_)
    rw [ht1] at hj1 al1
    have hj1 : l1 = [j] := hj1
    subst hj1
    have hlist : [j] ++ (la ++ (lb ++ lc)) = j :: (la ++ (lb ++ lc)) := rfl
    rw [hlist] at hdis hld k
    have nx1cap : nx1 ≤ 8192 := by
      have g2 := (ct_tk_sp (n := ct_sz a + (ct_sz b + ct_sz c)) (sp := sp1) (nx := nx1)).2.1
      rw [hall] at g2
      simp only at g2
      omega
    obtain ⟨ok1, _, _⟩ := ct_tk_ok ht1 hok nx1cap
    have hij : ¬ j = i := fun hc => hdis j List.mem_cons_self (hc ▸ List.mem_cons_self)
    have jf : ∀ {f : List Nat}, (∀ x, x ∈ f → x ∈ fa ++ (fb ++ fc)) → ¬ j ∈ f := fun hf hc => hdis j List.mem_cons_self (List.mem_cons_of_mem _ (hf j hc))
    have c1n : ∀ b x, 92 ≤ b → b ≤ 98 → ¬ x = j → cW_nd j b x = false := fun b x q1 q2 hx => decide_eq_false (by omega)
    have e1 : S.1 92 i = e.1 := by rw [← h3]
    have e2 : S.2 93 i = e.2.1 := by rw [← h3]
    have e3 : S.1 97 i = e.2.2.1 := by rw [← h3]
    have e4 : S.1 98 i = e.2.2.2 := by rw [← h3]
    refine ⟨cp_in h2 (by decide), ?_⟩
    rw [cp_cl (by omega)]
    rintro _ rfl
    refine ⟨cp_in hj (by decide), ?_⟩
    rintro _ rfl
    refine ⟨cp_in h2 (by decide), ?_⟩
    rintro _ rfl
    rw [(c1 93 i (c1n _ _ (by omega) (by omega) (fun h => hij h.symm))).2, cp_wJ1, (c1 92 i (c1n _ _ (by omega) (by omega) (fun h => hij h.symm))).1, (c1 97 i (c1n _ _ (by omega) (by omega) (fun h => hij h.symm))).1, e1, e2, e3]
    have hfl : ct_fl (ct_nd e a b c) = e :: (ct_fl a ++ (ct_fl b ++ ct_fl c)) := rfl
    have hbl : ct_bl (ct_fl (ct_nd e a b c)) = ct_ob e ++ ct_bl (ct_fl a ++ (ct_fl b ++ ct_fl c)) := rfl
    rw [hfl] at hpb
    obtain ⟨pb0, pb1⟩ := ct_pb_cons hpb
    rw [hbl] at hB k
    -- what is the same behind the naming
    have rest : ∀ (S2 : cm_S) (K2 : cm_K), cf_W (cW_cp [j]) S S2 → S2.1 83 17 = S1.1 83 17 → S2.1 83 19 = S1.1 83 19 → S2.1 83 20 = Int32.ofNat (n + (P ++ ct_ob e).length) → cl_st S2 n (P ++ ct_ob e) B → (S2.1 92 j, S2.2 93 j, S2.1 97 j, S2.1 98 j) = ct_rd (ct_fr n B) e → (∀ S3 v, K (.inl v) S3 0 → K2 (.inl v) S3 0) →
        am_in (Int32.ofNat i) 8192 ∧ ∀ x65, x65 = S2.1 94 (Int32.ofNat i).toNatClampNeg → (cm_At (am_XX L xs) (d + (ct_sz a + (ct_sz b + ct_sz c)) + 3) 201 0 [some (.ref 83), some (.int x65), none] [] S2 (fun r S66 k67 => cm_r1 (fun x69 => am_in (Int32.ofNat j) 8192 ∧ ∀ S70, S70 = cm_wI S66 94 (Int32.ofNat j).toNatClampNeg x69 → (am_in (Int32.ofNat i) 8192 ∧ ∀ x71, x71 = S70.1 95 (Int32.ofNat i).toNatClampNeg → (cm_At (am_XX L xs) (d + (ct_sz a + (ct_sz b + ct_sz c)) + 3) 201 0 [some (.ref 83), some (.int x71), none] [] S70 (fun r S72 k73 => cm_r1 (fun x75 => am_in (Int32.ofNat j) 8192 ∧ ∀ S76, S76 = cm_wI S72 95 (Int32.ofNat j).toNatClampNeg x75 → (am_in (Int32.ofNat i) 8192 ∧ ∀ x77, x77 = S76.1 96 (Int32.ofNat i).toNatClampNeg → (cm_At (am_XX L xs) (d + (ct_sz a + (ct_sz b + ct_sz c)) + 3) 201 0 [some (.ref 83), some (.int x77), none] [] S76 (fun r S78 k79 => cm_r1 (fun x81 => am_in (Int32.ofNat j) 8192 ∧ ∀ S82, S82 = cm_wI S78 96 (Int32.ofNat j).toNatClampNeg x81 → ((cm_sh (cm_sh (cm_sh K2 k67) k73) k79) (.inl (some (.int (Int32.ofNat j)))) S82 0)) (fun e80 => (cm_sh (cm_sh K2 k67) k73) (.inr e80) S78 k79) r)))) (fun e74 => (cm_sh K2 k67) (.inr e74) S72 k73) r)))) (fun e68 => K2 (.inr e68) S66 k67) r)) := by
      intro S2 K2 cs q1 q2 v2 st2 row2 hK
      have jj : ∀ {f : List Nat} b x, (∀ x, x ∈ f → x ∈ fa ++ (fb ++ fc)) → 92 ≤ b → b ≤ 98 → x ∈ f → cW_cp [j] b x = false := fun b x hf g1 g2 hx => cW_cp_no ⟨g1, g2⟩ (fun hc => jf hf (by rw [List.mem_singleton] at hc; rw [← hc]; exact hx))
      have hsa : ∀ x, x ∈ fa → x ∈ fa ++ (fb ++ fc) := fun x hx => List.mem_append_left _ hx
      have hsb : ∀ x, x ∈ fb → x ∈ fa ++ (fb ++ fc) := fun x hx => List.mem_append_right _ (List.mem_append_left _ hx)
      have hsc : ∀ x, x ∈ fc → x ∈ fa ++ (fb ++ fc) := fun x hx => List.mem_append_right _ (List.mem_append_right _ hx)
      have ii : ∀ b, 92 ≤ b → b ≤ 98 → cW_cp [j] b i = false := fun b g1 g2 => cW_cp_no ⟨g1, g2⟩ (fun hc => hij (by rw [List.mem_singleton] at hc; exact hc.symm))
      refine cp_201c (d := d) (e2 := ct_rd (ct_fr n B) e) iha ihb ihc w5 w6 w7 b1 b2 b3 m1 m2 m3 (P := P ++ ct_ob e) (R := R) hta htb htc (by rw [hB]; simp only [List.append_assoc]) pb1 h2 hj ?_ ?_ ?_ ?_ ok1 hcap hdis hld v2 st2 row2 ?_
      · rw [(cs 94 i (ii _ (by omega) (by omega))).1]; exact cl_t_cf cs a w5 _ _ (fun b x g1 g2 hx => jj b x hsa g1 g2 hx) h4
      · rw [(cs 95 i (ii _ (by omega) (by omega))).1]; exact cl_t_cf cs b w6 _ _ (fun b x g1 g2 hx => jj b x hsb g1 g2 hx) h5
      · rw [(cs 96 i (ii _ (by omega) (by omega))).1]; exact cl_t_cf cs c w7 _ _ (fun b x g1 g2 hx => jj b x hsc g1 g2 hx) h6
      · refine ⟨q2.trans al1.1, q1.trans al1.2.1, ?_⟩
        have hsp : sp1 = sp.drop 1 := by
          have g := (ct_tk_sp (n := 1) (sp := sp) (nx := nx)).1
          rw [ht1] at g
          exact g
        have hs : cl_sp S sp1 := by
          rw [hsp]
          rcases sp with _ | ⟨y, sp⟩
          · trivial
          · exact hal.2.2.2
        exact cl_sp_cf cs (fun y _ => decide_eq_false (by omega)) hs
      · intro S3 g1 g2 g3 g4 g5
        refine hK S3 _ (k S3 _ g1 g2 ?_ ?_ (cf_tr (cW_cp_mono (fun x hx => by rw [List.mem_singleton] at hx; rw [hx]; exact List.mem_cons_self) cs) g5))
        · rw [g3, List.append_assoc]
        · rw [List.append_assoc] at g4; exact g4
    simp only [cp_cl (show i < 2147483648 by omega), cp_cl (show j < 2147483648 by omega)] at rest
    have c1p : cf_W (cW_cp [j]) S S1 := cf_mono c1 (fun b y hb => decide_eq_true (by
      have hb := of_decide_eq_true hb
      rcases hb with hb | hb
      · exact Or.inl ⟨hb.1, hb.2.1, by rw [List.mem_singleton]; exact hb.2.2⟩
      · exact Or.inr (Or.inl ⟨hb.1, by omega⟩)))
    have c1q : cf_W (cW_cp [j]) S (cm_wJ S1 93 j e.2.1) := cf_tr c1p (cf_wJ (decide_eq_true (Or.inl ⟨by omega, by omega, List.mem_cons_self⟩)))
    obtain ⟨r1, r2, r3, r4, r5, r6, r7⟩ := row1
    have st1 : cl_st (cm_wJ S1 93 j e.2.1) n P B := cl_st_cf (W := cW_nd j) c1 ⟨fun _ => decide_eq_false (by omega), fun _ => decide_eq_false (by omega), decide_eq_false (by omega)⟩ hst
    have v1 : (cm_wJ S1 93 j e.2.1).1 83 20 = Int32.ofNat (n + P.length) := by rw [cp_wJ1, (c1 83 20 (decide_eq_false (by omega))).1]; exact hv
    have hfm := ct_fr_m1 (n := n) (fun y hy => (hB0 y hy).1)
    refine ⟨fun hk => ⟨cp_in h2 (by decide), ?_⟩, fun hk => ⟨cp_in h2 (by decide), ?_⟩⟩
    · have hvn := m0.1 (Or.inl hk)
      have hvb : 0 ≤ e.2.2.1.toInt ∧ e.2.2.1.toInt < 32768 := by
        rcases b0.1 with h | h
        · exact absurd h hvn.1
        · exact h
      have hin : am_in e.2.2.1 32768 := by
        obtain ⟨z, hz, hz1, hz2⟩ := cp_of hvb.1
        rw [hz]; exact cp_in (by omega) (by decide)
      rw [ct_ob_2 hk, List.append_nil] at rest
      rintro _ rfl
      refine ⟨hin, ?_⟩
      rintro _ rfl
      rintro _ rfl
      have fin : ∀ (K2 : cm_K) y, y = ct_fr n B e.2.2.1 → (∀ S3 v, K (.inl v) S3 0 → K2 (.inl v) S3 0) → _ := fun K2 y hy hK => rest (cm_wI (cm_wJ S1 93 j e.2.1) 97 j y) K2 (cf_tr c1q (cf_wI (decide_eq_true (Or.inl ⟨by omega, by omega, List.mem_cons_self⟩)))) (by rw [cp_wI1, if_neg (by omega)]; rfl) (by rw [cp_wI1, if_neg (by omega)]; rfl) (by rw [cp_wI1, if_neg (by omega)]; exact v1) (cl_st_cf (W := fun b _ => decide (b = 97)) (cf_wI (decide_eq_true rfl)) ⟨fun _ => rfl, fun _ => rfl, rfl⟩ st1) (by
        unfold ct_rd
        rw [hy]
        simp [cp_wI1, cp_wJ1, cp_wI2, cp_wJ2, r1, r7, e1, hvn.2, hfm]) hK
      refine ⟨fun hs => ?_, fun hs => ?_⟩
      · refine ⟨cp_in h2 (by decide), ?_⟩
        rintro _ rfl
        refine ⟨hin, ?_⟩
        rintro _ rfl
        refine ⟨cp_in hj (by decide), ?_⟩
        rintro _ rfl
        have hin2 : e.2.2.1 ∈ P := Decidable.byContradiction (fun hc => st1.2.1 _ hvb.1 hvb.2 hc hs)
        refine fin _ _ ?_ (fun S3 v h => h)
        rw [← cp_wJ1 (S := S1) (a := 93) (k := j) (x := e.2.1), (st1.1 _ hin2).2]
        unfold ct_fr
        rw [if_pos (by rw [hB]; exact List.mem_append_left _ hin2)]
      · refine ⟨cp_in h2 (by decide), ?_⟩
        rintro _ rfl
        refine ⟨cp_in hj (by decide), ?_⟩
        rintro _ rfl
        have hno : ¬ e.2.2.1 ∈ P := fun hc => hs (st1.1 _ hc).1
        refine fin _ _ ?_ (fun S3 v h => h)
        unfold ct_fr
        rw [if_neg (fun hc => hno (pb0 hk hc))]
    · have hob := ct_ob_oo m0 hk
      rw [hob] at hB rest
      rintro _ rfl
      rw [show d + (ct_sz a + (ct_sz b + ct_sz c)) + 3 = (d + (ct_sz a + (ct_sz b + ct_sz c)) + 1) + 2 by omega]
      refine cp_200o (R := ct_oo e.2.2.2 ++ ct_bl (ct_fl a ++ (ct_fl b ++ ct_fl c)) ++ R) (by rw [hB]; simp only [List.append_assoc]) hnd hB0 hn v1 st1 (fun S2 v2 st2 c2 => cp_r1 ?_)
      refine ⟨cp_in hj (by decide), ?_⟩
      rintro _ rfl
      refine ⟨cp_in h2 (by decide), ?_⟩
      have cn : ∀ b x, 92 ≤ b → b ≤ 98 → cW_rn b x = false := fun b x q1 q2 => decide_eq_false (by omega)
      rintro _ rfl
      rw [cp_wI1, if_neg (by omega), (c2 98 i (cn _ _ (by omega) (by omega))).1, cp_wJ1, (c1 98 i (c1n _ _ (by omega) (by omega) (fun h => hij h.symm))).1, e4]
      refine cp_200o (R := ct_bl (ct_fl a ++ (ct_fl b ++ ct_fl c)) ++ R) (P := P ++ ct_oo e.2.2.1) (by rw [hB]; simp only [List.append_assoc]) hnd hB0 hn (by rw [cp_wI1, if_neg (by omega)]; exact v2) (cl_st_cf (W := fun b _ => decide (b = 97)) (cf_wI (decide_eq_true rfl)) ⟨fun _ => rfl, fun _ => rfl, rfl⟩ st2) (fun S3 v3 st3 c3 => cp_r1 ?_)
      refine ⟨cp_in hj (by decide), ?_⟩
      rintro _ rfl
      have mono : ∀ {S4 S5 : cm_S}, cf_W cW_rn S4 S5 → cf_W (cW_cp [j]) S4 S5 := fun h => cf_mono h (fun b y hb => decide_eq_true (by have hb := of_decide_eq_true hb; omega))
      have hlast : cf_W (cW_cp [j]) S (cm_wI S3 98 j (ct_fr n B e.2.2.2)) := cf_tr c1q (cf_tr (mono c2) (cf_tr (cf_wI (decide_eq_true (Or.inl ⟨by omega, by omega, List.mem_cons_self⟩))) (cf_tr (mono c3) (cf_wI (decide_eq_true (Or.inl ⟨by omega, by omega, List.mem_cons_self⟩))))))
      refine rest (cm_wI S3 98 j (ct_fr n B e.2.2.2)) _ hlast ?_ ?_ ?_ ?_ ?_ (fun S4 v h => h)
      · rw [cp_wI1, if_neg (by omega), (c3 83 17 rfl).1, cp_wI1, if_neg (by omega), (c2 83 17 rfl).1]; rfl
      · rw [cp_wI1, if_neg (by omega), (c3 83 19 rfl).1, cp_wI1, if_neg (by omega), (c2 83 19 rfl).1]; rfl
      · rw [cp_wI1, if_neg (by omega), v3]
        simp only [List.append_assoc]
      · have h := cl_st_cf (S2 := cm_wI S3 98 j (ct_fr n B e.2.2.2)) (W := fun b _ => decide (b = 98)) (cf_wI (decide_eq_true rfl)) ⟨fun _ => rfl, fun _ => rfl, rfl⟩ st3
        simp only [List.append_assoc] at h
        exact h
      · have g92 : S3.1 92 j = e.1 := by rw [(c3 92 j (cn _ _ (by omega) (by omega))).1, cp_wI1, if_neg (by omega), (c2 92 j (cn _ _ (by omega) (by omega))).1, cp_wJ1, r1, e1]
        have g93 : S3.2 93 j = e.2.1 := by rw [(c3 93 j (cn _ _ (by omega) (by omega))).2, cp_wI2, (c2 93 j (cn _ _ (by omega) (by omega))).2, cp_wJ2, if_pos ⟨rfl, rfl⟩]
        have g97 : S3.1 97 j = ct_fr n B e.2.2.1 := by rw [(c3 97 j (cn _ _ (by omega) (by omega))).1, cp_wI1, if_pos ⟨rfl, rfl⟩]
        unfold ct_rd
        simp [cp_wI1, cp_wI2, g92, g93, g97])
theorem cl_cs_st {S S2 : cm_S} {c : Nat} (hc : c < 2147483647) (h : cl_cs S c) (h1 : S2.1 83 23 = Int32.ofNat (c + 1)) (h2 : S2.1 101 = S.1 101) {n : Nat} {B : List Int32} : cl_st S2 n [] B := by
  refine ⟨fun x hx => (by cases hx), fun x g1 g2 _ => ?_, c + 1, by omega, h1, fun j hj => ?_⟩
  · obtain ⟨i, rfl, h3, h4⟩ := cp_of g1
    rw [cp_cl h4, h2, h1]
    obtain ⟨m, hm, e⟩ := h.2 i (by omega)
    rw [e, cp_inj (by omega) (by omega)]
    omega
  · rw [h2]
    obtain ⟨m, hm, e⟩ := h.2 j hj
    exact ⟨m, by omega, e⟩
theorem cl_st_cs {S : cm_S} {n c : Nat} {P B : List Int32} (hst : cl_st S n P B) (h : S.1 83 23 = Int32.ofNat c) (hc : c < 2147483648) : cl_cs S c := by
  obtain ⟨c2, h1, h2, h3⟩ := hst.2.2
  rw [h2, cp_inj h1 hc] at h
  subst h
  exact ⟨h2, h3⟩
end CP44
