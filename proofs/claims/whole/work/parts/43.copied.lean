/-! ## 43 copied, copy, kept -/
/-- what copying a tree comes to -/
def cl_cpy (L : Nat) (xs : Nat → Int32) (B : List Int32) (n : Nat) (u : ct_T) : Prop := ∀ (d : Nat) (S : cm_S) (p : Int32) (fp : List Nat) (P R : List Int32) (sp : List Nat) (nx : Nat) (l sp2 : List Nat) (nx2 : Nat) (K : cm_K), ct_tk (ct_sz u) sp nx = (l, sp2, nx2) → B = P ++ (ct_bl (ct_fl u) ++ R) → ct_nb u → ct_nws u → ct_pb B P (ct_fl u) → cl_t S u p fp → cl_al S sp nx → cl_ok sp nx → nx2 ≤ 8192 →
  (∀ x, x ∈ l → ¬ x ∈ fp) → l.Nodup → S.1 83 20 = Int32.ofNat (n + P.length) → cl_st S n P B →
  (∀ S2 q, cl_t S2 (ct_map (ct_fr n B) u) q l → cl_al S2 sp2 nx2 → S2.1 83 20 = Int32.ofNat (n + (P ++ ct_bl (ct_fl u)).length) → cl_st S2 n (P ++ ct_bl (ct_fl u)) B → cf_W (cW_cp l) S S2 → K (.inl (some (.int q))) S2 0) →
  cm_At (am_XX L xs) (d + ct_sz u + 3) 201 0 [some (.ref 83), some (.int p), none] [] S K
theorem ct_fr_m1 {n : Nat} {B : List Int32} (h : ∀ y, y ∈ B → 0 ≤ y.toInt) : ct_fr n B (-1) = -1 := by
  unfold ct_fr
  rw [if_neg (fun hc => by have := h _ hc; exact absurd this (by decide))]
theorem ct_tk_ok {n : Nat} {sp l sp2 : List Nat} {nx nx2 : Nat} (ht : ct_tk n sp nx = (l, sp2, nx2)) (h : cl_ok sp nx) (h2 : nx2 ≤ 8192) : cl_ok sp2 nx2 ∧ (∀ x, x ∈ l → x < 8192) ∧ nx ≤ nx2 := by
  obtain ⟨q1, q2, q3, q4⟩ := ct_tk_sp (n := n) (sp := sp) (nx := nx)
  rw [ht] at q1 q2 q3
  simp only at q1 q2 q3
  refine ⟨⟨?_, h2, fun x hx => ?_⟩, fun x hx => ?_, by omega⟩
  · rw [q1, List.length_drop]; have := h.1; omega
  · rw [q1] at hx; exact h.2.2 x (List.mem_of_mem_drop hx)
  · rcases (q3 x).mp hx with hx | hx
    · exact h.2.2 x (List.mem_of_mem_take hx)
    · omega
theorem cW_cp_mono {l l2 : List Nat} (h : ∀ x, x ∈ l → x ∈ l2) {S S2 : cm_S} (hc : cf_W (cW_cp l) S S2) : cf_W (cW_cp l2) S S2 := cf_mono hc (fun b j hb => decide_eq_true (by
  have hb := of_decide_eq_true hb
  rcases hb with hb | hb
  · exact Or.inl ⟨hb.1, hb.2.1, h j hb.2.2⟩
  · exact Or.inr hb))
theorem cW_cp_no {l : List Nat} {b j : Nat} (h : 92 ≤ b ∧ b ≤ 98) (hj : ¬ j ∈ l) : cW_cp l b j = false := decide_eq_false (by
  rintro (hc | hc | hc | hc)
  · exact hj hc.2.2
  · omega
  · omega
  · omega)
section CP43
variable {L : Nat} {xs : Nat → Int32} {d : Nat}
/-- the parts of a node are copied, and linked -/
theorem cp_201c {B : List Int32} {n : Nat} {e2 : ct_D} {a b c : ct_T} (iha : cl_cpy L xs B n a) (ihb : cl_cpy L xs B n b) (ihc : cl_cpy L xs B n c) (wa : ct_wf a) (wb : ct_wf b) (wc : ct_wf c) (na : ct_nb a) (nb : ct_nb b) (nc : ct_nb c) (ma : ct_nws a) (mb : ct_nws b) (mc : ct_nws c)
    {S : cm_S} {i j : Nat} {fa fb fc : List Nat} {P R : List Int32} {sp la lb lc spa spb spc : List Nat} {nx nxa nxb nxc : Nat} {K : cm_K} (hta : ct_tk (ct_sz a) sp nx = (la, spa, nxa)) (htb : ct_tk (ct_sz b) spa nxa = (lb, spb, nxb)) (htc : ct_tk (ct_sz c) spb nxb = (lc, spc, nxc))
    (hB : B = P ++ (ct_bl (ct_fl a ++ (ct_fl b ++ ct_fl c)) ++ R)) (hpb : ct_pb B P (ct_fl a ++ (ct_fl b ++ ct_fl c))) (hi : i < 8192) (hj : j < 8192)
    (ha : cl_t S a (S.1 94 i) fa) (hb : cl_t S b (S.1 95 i) fb) (hc : cl_t S c (S.1 96 i) fc) (hal : cl_al S sp nx) (hok : cl_ok sp nx) (hcap : nxc ≤ 8192)
    (hdis : ∀ x, x ∈ j :: (la ++ (lb ++ lc)) → ¬ x ∈ i :: (fa ++ (fb ++ fc))) (hnd : (j :: (la ++ (lb ++ lc))).Nodup) (hv : S.1 83 20 = Int32.ofNat (n + P.length)) (hst : cl_st S n P B)
    (hrow : (S.1 92 j, S.2 93 j, S.1 97 j, S.1 98 j) = e2)
    (k : ∀ S2, cl_t S2 (ct_nd e2 (ct_map (ct_fr n B) a) (ct_map (ct_fr n B) b) (ct_map (ct_fr n B) c)) (Int32.ofNat j) (j :: (la ++ (lb ++ lc))) → cl_al S2 spc nxc → S2.1 83 20 = Int32.ofNat (n + (P ++ ct_bl (ct_fl a ++ (ct_fl b ++ ct_fl c))).length) → cl_st S2 n (P ++ ct_bl (ct_fl a ++ (ct_fl b ++ ct_fl c))) B → cf_W (cW_cp (j :: (la ++ (lb ++ lc)))) S S2 → K (.inl (some (.int (Int32.ofNat j)))) S2 0) :
    am_in (Int32.ofNat i) 8192 ∧ ∀ x65, x65 = S.1 94 (Int32.ofNat i).toNatClampNeg → (cm_At (am_XX L xs) (d + (ct_sz a + (ct_sz b + ct_sz c)) + 3) 201 0 [some (.ref 83), some (.int x65), none] [] S (fun r S66 k67 => cm_r1 (fun x69 => am_in (Int32.ofNat j) 8192 ∧ ∀ S70, S70 = cm_wI S66 94 (Int32.ofNat j).toNatClampNeg x69 → (am_in (Int32.ofNat i) 8192 ∧ ∀ x71, x71 = S70.1 95 (Int32.ofNat i).toNatClampNeg → (cm_At (am_XX L xs) (d + (ct_sz a + (ct_sz b + ct_sz c)) + 3) 201 0 [some (.ref 83), some (.int x71), none] [] S70 (fun r S72 k73 => cm_r1 (fun x75 => am_in (Int32.ofNat j) 8192 ∧ ∀ S76, S76 = cm_wI S72 95 (Int32.ofNat j).toNatClampNeg x75 → (am_in (Int32.ofNat i) 8192 ∧ ∀ x77, x77 = S76.1 96 (Int32.ofNat i).toNatClampNeg → (cm_At (am_XX L xs) (d + (ct_sz a + (ct_sz b + ct_sz c)) + 3) 201 0 [some (.ref 83), some (.int x77), none] [] S76 (fun r S78 k79 => cm_r1 (fun x81 => am_in (Int32.ofNat j) 8192 ∧ ∀ S82, S82 = cm_wI S78 96 (Int32.ofNat j).toNatClampNeg x81 → ((cm_sh (cm_sh (cm_sh K k67) k73) k79) (.inl (some (.int (Int32.ofNat j)))) S82 0)) (fun e80 => (cm_sh (cm_sh K k67) k73) (.inr e80) S78 k79) r)))) (fun e74 => (cm_sh K k67) (.inr e74) S72 k73) r)))) (fun e68 => K (.inr e68) S66 k67) r)) := by
  obtain ⟨n1, n2⟩ := List.nodup_cons.mp hnd
  obtain ⟨u1, u2, u3⟩ := List.nodup_append.mp n2
  obtain ⟨u4, u5, u6⟩ := List.nodup_append.mp u2
  have q1 : nxa ≤ nxb ∧ nxb ≤ nxc := by
    have h1 := (ct_tk_sp (n := ct_sz b) (sp := spa) (nx := nxa)).2.1
    have h2 := (ct_tk_sp (n := ct_sz c) (sp := spb) (nx := nxb)).2.1
    rw [htb] at h1
    rw [htc] at h2
    simp only at h1 h2
    omega
  obtain ⟨oka, _, _⟩ := ct_tk_ok hta hok (by omega)
  obtain ⟨okb, _, _⟩ := ct_tk_ok htb oka (by omega)
  rw [ct_bl_app, ct_bl_app] at hB k
  obtain ⟨pa, pbc⟩ := ct_pb_app hpb
  obtain ⟨pb, pc⟩ := ct_pb_app pbc
  have dj : ∀ x, x ∈ la ∨ x ∈ lb ∨ x ∈ lc → ¬ x = j ∧ ¬ x = i ∧ ¬ x ∈ fa ∧ ¬ x ∈ fb ∧ ¬ x ∈ fc := by
    intro x hx
    have hm : x ∈ la ++ (lb ++ lc) := by
      rcases hx with hx | hx | hx
      · exact List.mem_append_left _ hx
      · exact List.mem_append_right _ (List.mem_append_left _ hx)
      · exact List.mem_append_right _ (List.mem_append_right _ hx)
    have h1 := hdis x (List.mem_cons_of_mem _ hm)
    refine ⟨fun hc => n1 (hc ▸ hm), fun hc => h1 (hc ▸ List.mem_cons_self), fun hc => h1 (List.mem_cons_of_mem _ (List.mem_append_left _ hc)), fun hc => h1 (List.mem_cons_of_mem _ (List.mem_append_right _ (List.mem_append_left _ hc))), fun hc => h1 (List.mem_cons_of_mem _ (List.mem_append_right _ (List.mem_append_right _ hc)))⟩
  have dji := hdis j List.mem_cons_self
  have hij : ¬ j = i := fun hc => dji (hc ▸ List.mem_cons_self)
  have jfa : ¬ j ∈ fa := fun hc => dji (List.mem_cons_of_mem _ (List.mem_append_left _ hc))
  have jfb : ¬ j ∈ fb := fun hc => dji (List.mem_cons_of_mem _ (List.mem_append_right _ (List.mem_append_left _ hc)))
  have jfc : ¬ j ∈ fc := fun hc => dji (List.mem_cons_of_mem _ (List.mem_append_right _ (List.mem_append_right _ hc)))
  have jla : ¬ j ∈ la := fun hc => (dj j (Or.inl hc)).1 rfl
  have jlb : ¬ j ∈ lb := fun hc => (dj j (Or.inr (Or.inl hc))).1 rfl
  have jlc : ¬ j ∈ lc := fun hc => (dj j (Or.inr (Or.inr hc))).1 rfl
  have ila : ¬ i ∈ la := fun hc => (dj i (Or.inl hc)).2.1 rfl
  have ilb : ¬ i ∈ lb := fun hc => (dj i (Or.inr (Or.inl hc))).2.1 rfl
  have ilc : ¬ i ∈ lc := fun hc => (dj i (Or.inr (Or.inr hc))).2.1 rfl
  refine ⟨cp_in hi (by decide), ?_⟩
  rw [cp_cl (by omega), cp_cl (by omega)]
  rintro _ rfl
  rw [show d + (ct_sz a + (ct_sz b + ct_sz c)) + 3 = (d + ct_sz b + ct_sz c) + ct_sz a + 3 by omega]
  refine iha _ _ _ _ P (ct_bl (ct_fl b) ++ ct_bl (ct_fl c) ++ R) _ _ _ _ _ _ hta (by rw [hB]; simp only [List.append_assoc]) na ma pa ha hal hok (by omega) (fun x hx => (dj x (Or.inl hx)).2.2.1) u1 hv hst (fun S1 qa ta aa va sta ca => cp_r1 ?_)
  refine ⟨cp_in hj (by decide), ?_⟩
  rintro _ rfl
  refine ⟨cp_in hi (by decide), ?_⟩
  rintro _ rfl
  have wr1 : cf_W (cW_cp [j]) S1 (cm_wI S1 94 j qa) := cf_wI (decide_eq_true (Or.inl ⟨by omega, by omega, List.mem_cons_self⟩))
  rw [cp_wI1, if_neg (by omega), (ca 95 i (cW_cp_no (by omega) ila)).1]
  have hb1 : cl_t (cm_wI S1 94 j qa) b (S.1 95 i) fb := cl_t_cf wr1 b wb _ _ (fun b x q1 q2 hx => cW_cp_no ⟨q1, q2⟩ (fun hc => jfb (by rw [List.mem_singleton] at hc; rw [← hc]; exact hx))) (cl_t_cf ca b wb _ _ (fun b x q1 q2 hx => cW_cp_no ⟨q1, q2⟩ (fun hc => (dj x (Or.inl hc)).2.2.2.1 hx)) hb)
  have aa1 : cl_al (cm_wI S1 94 j qa) spa nxa := ⟨by rw [cp_wI1, if_neg (by omega)]; exact aa.1, by rw [cp_wI1, if_neg (by omega)]; exact aa.2.1, cl_sp_cf (W := fun b _ => decide (b = 94)) (cf_wI (decide_eq_true rfl)) (fun _ _ => rfl) aa.2.2⟩
  have sta1 : cl_st (cm_wI S1 94 j qa) n (P ++ ct_bl (ct_fl a)) B := cl_st_cf (W := fun b _ => decide (b = 94)) (cf_wI (decide_eq_true rfl)) ⟨fun _ => rfl, fun _ => rfl, rfl⟩ sta
  rw [show d + ct_sz b + ct_sz c + ct_sz a + 3 = (d + ct_sz a + ct_sz c) + ct_sz b + 3 by omega]
  refine ihb _ _ _ _ (P ++ ct_bl (ct_fl a)) (ct_bl (ct_fl c) ++ R) _ _ _ _ _ _ htb (by rw [hB]; simp only [List.append_assoc]) nb mb pb hb1 aa1 oka (by omega) (fun x hx => (dj x (Or.inr (Or.inl hx))).2.2.2.1) u4 (by rw [cp_wI1, if_neg (by omega)]; exact va) sta1 (fun S2 qb tb ab vb stb cb => cp_r1 ?_)
  refine ⟨cp_in hj (by decide), ?_⟩
  rintro _ rfl
  refine ⟨cp_in hi (by decide), ?_⟩
  rintro _ rfl
  have wr2 : cf_W (cW_cp [j]) S2 (cm_wI S2 95 j qb) := cf_wI (decide_eq_true (Or.inl ⟨by omega, by omega, List.mem_cons_self⟩))
  rw [cp_wI1, if_neg (by omega), (cb 96 i (cW_cp_no (by omega) ilb)).1, cp_wI1, if_neg (by omega), (ca 96 i (cW_cp_no (by omega) ila)).1]
  have hc1 : cl_t (cm_wI S2 95 j qb) c (S.1 96 i) fc := by
    refine cl_t_cf wr2 c wc _ _ (fun b x q1 q2 hx => cW_cp_no ⟨q1, q2⟩ (fun hc => jfc (by rw [List.mem_singleton] at hc; rw [← hc]; exact hx))) ?_
    refine cl_t_cf cb c wc _ _ (fun b x q1 q2 hx => cW_cp_no ⟨q1, q2⟩ (fun hc => (dj x (Or.inr (Or.inl hc))).2.2.2.2 hx)) ?_
    refine cl_t_cf wr1 c wc _ _ (fun b x q1 q2 hx => cW_cp_no ⟨q1, q2⟩ (fun hc => jfc (by rw [List.mem_singleton] at hc; rw [← hc]; exact hx))) ?_
    exact cl_t_cf ca c wc _ _ (fun b x q1 q2 hx => cW_cp_no ⟨q1, q2⟩ (fun hc => (dj x (Or.inl hc)).2.2.2.2 hx)) hc
  have ab1 : cl_al (cm_wI S2 95 j qb) spb nxb := ⟨by rw [cp_wI1, if_neg (by omega)]; exact ab.1, by rw [cp_wI1, if_neg (by omega)]; exact ab.2.1, cl_sp_cf (W := fun b _ => decide (b = 95)) (cf_wI (decide_eq_true rfl)) (fun _ _ => rfl) ab.2.2⟩
  have stb1 : cl_st (cm_wI S2 95 j qb) n (P ++ ct_bl (ct_fl a) ++ ct_bl (ct_fl b)) B := cl_st_cf (W := fun b _ => decide (b = 95)) (cf_wI (decide_eq_true rfl)) ⟨fun _ => rfl, fun _ => rfl, rfl⟩ stb
  rw [show d + ct_sz a + ct_sz c + ct_sz b + 3 = (d + ct_sz a + ct_sz b) + ct_sz c + 3 by omega]
  refine ihc _ _ _ _ (P ++ ct_bl (ct_fl a) ++ ct_bl (ct_fl b)) R _ _ _ _ _ _ htc (by rw [hB]; simp only [List.append_assoc]) nc mc pc hc1 ab1 okb (by omega) (fun x hx => (dj x (Or.inr (Or.inr hx))).2.2.2.2) u5 (by rw [cp_wI1, if_neg (by omega)]; exact vb) stb1 (fun S3 qc tc ac vc stc cc => cp_r1 ?_)
  refine ⟨cp_in hj (by decide), ?_⟩
  rintro _ rfl
  have wr3 : cf_W (cW_cp [j]) S3 (cm_wI S3 96 j qc) := cf_wI (decide_eq_true (Or.inl ⟨by omega, by omega, List.mem_cons_self⟩))
  have lab : ∀ x, x ∈ la → ¬ x ∈ lb := fun x hx hc => u3 x hx x (List.mem_append_left _ hc) rfl
  have lac : ∀ x, x ∈ la → ¬ x ∈ lc := fun x hx hc => u3 x hx x (List.mem_append_right _ hc) rfl
  have lbc : ∀ x, x ∈ lb → ¬ x ∈ lc := fun x hx hc => u6 x hx x hc rfl
  have sg : ∀ {l : List Nat}, ¬ j ∈ l → ∀ b x, 92 ≤ b → b ≤ 98 → x ∈ l → cW_cp [j] b x = false := fun hl b x q1 q2 hx => cW_cp_no ⟨q1, q2⟩ (fun hc => hl (by rw [List.mem_singleton] at hc; rw [← hc]; exact hx))
  have wma := ct_map_wf (f := ct_fr n B) a wa
  have wmb := ct_map_wf (f := ct_fr n B) b wb
  have wmc := ct_map_wf (f := ct_fr n B) c wc
  have ra : ∀ b, 92 ≤ b → b ≤ 98 → S1.1 b j = S.1 b j ∧ S1.2 b j = S.2 b j := fun b h1 h2 => ca b j (cW_cp_no ⟨h1, h2⟩ jla)
  have rb : ∀ b, 92 ≤ b → b ≤ 98 → S2.1 b j = (cm_wI S1 94 j qa).1 b j ∧ S2.2 b j = (cm_wI S1 94 j qa).2 b j := fun b h1 h2 => cb b j (cW_cp_no ⟨h1, h2⟩ jlb)
  have rc : ∀ b, 92 ≤ b → b ≤ 98 → S3.1 b j = (cm_wI S2 95 j qb).1 b j ∧ S3.2 b j = (cm_wI S2 95 j qb).2 b j := fun b h1 h2 => cc b j (cW_cp_no ⟨h1, h2⟩ jlc)
  refine k _ ?_ ?_ ?_ ?_ ?_
  · rw [cl_t_nd]
    refine ⟨j, la, lb, lc, rfl, hj, ?_, ?_, ?_, ?_, rfl⟩
    · rw [← hrow]
      simp only [cp_wI1, cp_wI2]
      rw [if_neg (by omega), if_neg (by omega), if_neg (by omega), (rc 92 (by omega) (by omega)).1, (rc 93 (by omega) (by omega)).2, (rc 97 (by omega) (by omega)).1, (rc 98 (by omega) (by omega)).1]
      simp only [cp_wI1, cp_wI2]
      rw [if_neg (by omega), if_neg (by omega), if_neg (by omega), (rb 92 (by omega) (by omega)).1, (rb 93 (by omega) (by omega)).2, (rb 97 (by omega) (by omega)).1, (rb 98 (by omega) (by omega)).1]
      simp only [cp_wI1, cp_wI2]
      rw [if_neg (by omega), if_neg (by omega), if_neg (by omega), (ra 92 (by omega) (by omega)).1, (ra 93 (by omega) (by omega)).2, (ra 97 (by omega) (by omega)).1, (ra 98 (by omega) (by omega)).1]
    · have hq : (cm_wI S3 96 j qc).1 94 j = qa := by
        rw [cp_wI1, if_neg (by omega), (rc 94 (by omega) (by omega)).1, cp_wI1, if_neg (by omega), (rb 94 (by omega) (by omega)).1, cp_wI1, if_pos ⟨rfl, rfl⟩]
      rw [hq]
      refine cl_t_cf wr3 _ wma _ _ (sg jla) ?_
      refine cl_t_cf cc _ wma _ _ (fun b x q1 q2 hx => cW_cp_no ⟨q1, q2⟩ (lac x hx)) ?_
      refine cl_t_cf wr2 _ wma _ _ (sg jla) ?_
      refine cl_t_cf cb _ wma _ _ (fun b x q1 q2 hx => cW_cp_no ⟨q1, q2⟩ (lab x hx)) ?_
      exact cl_t_cf wr1 _ wma _ _ (sg jla) ta
    · have hq : (cm_wI S3 96 j qc).1 95 j = qb := by
        rw [cp_wI1, if_neg (by omega), (rc 95 (by omega) (by omega)).1, cp_wI1, if_pos ⟨rfl, rfl⟩]
      rw [hq]
      refine cl_t_cf wr3 _ wmb _ _ (sg jlb) ?_
      refine cl_t_cf cc _ wmb _ _ (fun b x q1 q2 hx => cW_cp_no ⟨q1, q2⟩ (lbc x hx)) ?_
      exact cl_t_cf wr2 _ wmb _ _ (sg jlb) tb
    · have hq : (cm_wI S3 96 j qc).1 96 j = qc := by rw [cp_wI1, if_pos ⟨rfl, rfl⟩]
      rw [hq]
      exact cl_t_cf wr3 _ wmc _ _ (sg jlc) tc
  · exact ⟨by rw [cp_wI1, if_neg (by omega)]; exact ac.1, by rw [cp_wI1, if_neg (by omega)]; exact ac.2.1, cl_sp_cf (W := fun b _ => decide (b = 96)) (cf_wI (decide_eq_true rfl)) (fun _ _ => rfl) ac.2.2⟩
  · rw [cp_wI1, if_neg (by omega), vc]
    simp only [List.append_assoc]
  · have h := cl_st_cf (S2 := cm_wI S3 96 j qc) (W := fun b _ => decide (b = 96)) (cf_wI (decide_eq_true rfl)) ⟨fun _ => rfl, fun _ => rfl, rfl⟩ stc
    simp only [List.append_assoc] at h
    exact h
  · have s1 : ∀ x, x ∈ [j] → x ∈ j :: (la ++ (lb ++ lc)) := fun x hx => by rw [List.mem_singleton] at hx; rw [hx]; exact List.mem_cons_self
    refine cf_tr (cW_cp_mono (fun x hx => List.mem_cons_of_mem _ (List.mem_append_left _ hx)) ca) (cf_tr (cW_cp_mono s1 wr1) (cf_tr (cW_cp_mono (fun x hx => List.mem_cons_of_mem _ (List.mem_append_right _ (List.mem_append_left _ hx))) cb) (cf_tr (cW_cp_mono s1 wr2) (cf_tr (cW_cp_mono (fun x hx => List.mem_cons_of_mem _ (List.mem_append_right _ (List.mem_append_right _ hx))) cc) (cW_cp_mono s1 wr3)))))
end CP43
