/-! ## 41 the model's walks over trees: sizes, counts, what is freed -/
theorem ct_cn_nd {x : Int32} {e : ct_D} {a b c : ct_T} : ct_cn x (ct_fl (ct_nd e a b c)) = (if e.1 = 2 ∧ e.2.2.1 = x then 1 else 0) + (ct_cn x (ct_fl a) + (ct_cn x (ct_fl b) + ct_cn x (ct_fl c))) := by
  rw [ct_fl_nd]
  show (if e.1 = 2 ∧ e.2.2.1 = x then 1 else 0) + ct_cn x (ct_fl a ++ (ct_fl b ++ ct_fl c)) = _
  rw [ct_cn_app, ct_cn_app]
theorem ct_leafs {e : ct_D} {a b c : ct_T} (hw : ct_wf (ct_nd e a b c)) (h : e.1 = 2) : a = .leaf ∧ b = .leaf ∧ c = .leaf := by
  obtain ⟨w1, w2, w3, w4, w5, w6, w7⟩ := ct_wf_nd hw
  have h0 : ct_ar e.1 = 0 := by rw [h]; decide +kernel
  exact ⟨w2.mpr (by omega), w3.mpr (by omega), w4.mpr (by omega)⟩
theorem ct_hg_app {l2 : List ct_D} {l : List ct_D} : ct_hg (l ++ l2) = (ct_hg l || ct_hg l2) := List.any_append
def cW_fr (b j : Nat) : Bool := decide (b = 99 ∨ b = 83 ∧ j = 19)
theorem cl_push {S : cm_S} {sp : List Nat} {nx x : Nat} (hal : cl_al S sp nx) (hl : sp.length < 8192) : cl_al (cm_wI (cm_wI S 99 sp.length (Int32.ofNat x)) 83 19 (Int32.ofNat (sp.length + 1))) (x :: sp) nx := by
  refine ⟨?_, ?_, ?_, ?_⟩
  · rw [cp_wI1, if_pos ⟨rfl, rfl⟩]; rfl
  · rw [cp_wI1, if_neg (by omega), cp_wI1, if_neg (by omega)]; exact hal.2.1
  · rw [cp_wI1, if_neg (by omega), cp_wI1, if_pos ⟨rfl, rfl⟩]
  · have hc : cf_W (fun b j => decide (b = 99 ∧ j = sp.length ∨ b = 83 ∧ j = 19)) S (cm_wI (cm_wI S 99 sp.length (Int32.ofNat x)) 83 19 (Int32.ofNat (sp.length + 1))) := cf_tr (cf_wI (decide_eq_true (by omega))) (cf_wI (decide_eq_true (by omega)))
    exact cl_sp_cf hc (fun j hj => decide_eq_false (by omega)) hal.2.2
section CP41
variable {L : Nat} {xs : Nat → Int32} {x : Int32}
theorem cp_204 {S : cm_S} : ∀ t, ct_wf t → ∀ (d : Nat) (p : Int32) (fp : List Nat) (K : cm_K), ct_sz t < 100000 → cl_t S t p fp → K (.inl (some (.int (Int32.ofNat (ct_sz t))))) S 0 → cm_At (am_XX L xs) (d + ct_sz t + 1) 204 0 [some (.ref 83), some (.int p)] [] S K :=
  ct_ind (fun d p fp K _ h k => by
    obtain ⟨rfl, _⟩ := h
    exact cx_204_0 _ ⟨fun _ => k, fun h => absurd rfl h⟩) (fun e a b c hw iha ihb ihc d p fp K hs h k => by
    obtain ⟨i, fa, fb, fc, rfl, h2, h3, h4, h5, h6, rfl⟩ := h
    rw [ct_sz_nd] at hs k ⊢
    refine cx_204_0 _ ⟨fun h => absurd h (cp_m1 (by omega)), fun _ => ⟨cp_in h2 (by decide), ?_⟩⟩
    rw [cp_cl (by omega)]
    rintro _ rfl
    rw [show d + (1 + (ct_sz a + (ct_sz b + ct_sz c))) = (d + ct_sz b + ct_sz c) + ct_sz a + 1 by omega]
    refine iha _ _ _ _ (by omega) h4 (cp_r1 ?_)
    refine ⟨cp_in h2 (by decide), ?_⟩
    rintro _ rfl
    rw [show d + ct_sz b + ct_sz c + ct_sz a + 1 = (d + ct_sz a + ct_sz c) + ct_sz b + 1 by omega]
    refine ihb _ _ _ _ (by omega) h5 (cp_r1 ?_)
    refine ⟨cp_in h2 (by decide), ?_⟩
    rintro _ rfl
    rw [show d + ct_sz a + ct_sz c + ct_sz b + 1 = (d + ct_sz a + ct_sz b) + ct_sz c + 1 by omega]
    refine ihc _ _ _ _ (by omega) h6 (cp_r1 ?_)
    rw [show (1 : Int32) = Int32.ofNat 1 from rfl, cp_ad, cp_ad, cp_ad, show 1 + ct_sz a + ct_sz b + ct_sz c = 1 + (ct_sz a + (ct_sz b + ct_sz c)) by omega]
    exact k)
theorem cp_205 {S : cm_S} : ∀ t, ct_wf t → ∀ (d : Nat) (p : Int32) (fp : List Nat) (K : cm_K), cl_t S t p fp → K (.inl (some (.int (Int32.ofNat (ct_cn x (ct_fl t)))))) S 0 → cm_At (am_XX L xs) (d + ct_sz t + 1) 205 0 [some (.ref 83), some (.int p), some (.int x)] [] S K :=
  ct_ind (fun d p fp K h k => by
    obtain ⟨rfl, _⟩ := h
    exact cx_205_0 _ _ ⟨fun _ => ⟨fun _ => k, fun h => absurd rfl h⟩, fun h => absurd rfl h⟩) (fun e a b c hw iha ihb ihc d p fp K h k => by
    obtain ⟨i, fa, fb, fc, rfl, h2, h3, h4, h5, h6, rfl⟩ := h
    have e1 : S.1 92 i = e.1 := by rw [← h3]
    have e2 : S.1 97 i = e.2.2.1 := by rw [← h3]
    have hm := cp_m1 (n := i) (by omega)
    rw [ct_cn_nd] at k
    rw [ct_sz_nd]
    refine cx_205_0 _ _ ⟨fun h => absurd h hm, fun _ => ⟨cp_in h2 (by decide), ?_⟩⟩
    rw [cp_cl (by omega)]
    rintro _ rfl
    rw [e1]
    refine ⟨fun hk => ⟨fun h => absurd h hm, fun _ => ⟨cp_in h2 (by decide), ?_⟩⟩, fun hk => ⟨cp_in h2 (by decide), ?_⟩⟩
    · obtain ⟨l1, l2, l3⟩ := ct_leafs hw hk
      subst l1; subst l2; subst l3
      rintro _ rfl
      rw [e2]
      refine ⟨fun hx => ?_, fun hx => ?_⟩
      · rw [if_pos ⟨hk, hx⟩] at k; exact k
      · rw [if_neg (fun hc => hx hc.2)] at k; exact k
    · rw [if_neg (fun hc => hk hc.1), Nat.zero_add] at k
      rintro _ rfl
      rw [show d + (1 + (ct_sz a + (ct_sz b + ct_sz c))) = (d + ct_sz b + ct_sz c) + ct_sz a + 1 by omega]
      refine iha _ _ _ _ h4 (cp_r1 ?_)
      refine ⟨cp_in h2 (by decide), ?_⟩
      rintro _ rfl
      rw [show d + ct_sz b + ct_sz c + ct_sz a + 1 = (d + ct_sz a + ct_sz c) + ct_sz b + 1 by omega]
      refine ihb _ _ _ _ h5 (cp_r1 ?_)
      refine ⟨cp_in h2 (by decide), ?_⟩
      rintro _ rfl
      rw [show d + ct_sz a + ct_sz c + ct_sz b + 1 = (d + ct_sz a + ct_sz b) + ct_sz c + 1 by omega]
      refine ihc _ _ _ _ h6 (cp_r1 ?_)
      rw [cp_ad, cp_ad, Nat.add_assoc]
      exact k)
theorem cp_206 {S : cm_S} : ∀ t, ct_wf t → ∀ (d : Nat) (p : Int32) (fp : List Nat) (K : cm_K), cl_t S t p fp → K (.inl (some (.int (Int32.ofNat (ct_cw x t))))) S 0 → cm_At (am_XX L xs) (d + ct_sz t + 2) 206 0 [some (.ref 83), some (.int p), some (.int x)] [] S K :=
  ct_ind (fun d p fp K h k => by
    obtain ⟨rfl, _⟩ := h
    exact cx_206_0 _ _ ⟨fun _ => k, fun h => absurd rfl h⟩) (fun e a b c hw iha ihb ihc d p fp K h k => by
    have hcl := h
    obtain ⟨i, fa, fb, fc, rfl, h2, h3, h4, h5, h6, rfl⟩ := h
    have e1 : S.1 92 i = e.1 := by rw [← h3]
    have hm := cp_m1 (n := i) (by omega)
    rw [ct_cw_nd] at k
    refine cx_206_0 _ _ ⟨fun h => absurd h hm, fun _ => ⟨cp_in h2 (by decide), ?_⟩⟩
    rw [cp_cl (by omega)]
    rintro _ rfl
    rw [e1]
    refine ⟨fun hk => ?_, fun hk => ⟨cp_in h2 (by decide), ?_⟩⟩
    · rw [if_pos hk] at k
      refine cp_205 _ hw _ _ _ _ hcl (cp_r1 ?_)
      rw [ct_cn_nd, if_neg (fun hc => by rw [hk] at hc; exact absurd hc.1 (by decide)), Nat.zero_add, ← ct_cn_app, ← ct_cn_app]
      exact k
    · rw [if_neg hk] at k
      rw [ct_sz_nd]
      rintro _ rfl
      rw [show d + (1 + (ct_sz a + (ct_sz b + ct_sz c))) + 1 = (d + ct_sz b + ct_sz c) + ct_sz a + 2 by omega]
      refine iha _ _ _ _ h4 (cp_r1 ?_)
      refine ⟨cp_in h2 (by decide), ?_⟩
      rintro _ rfl
      rw [show d + ct_sz b + ct_sz c + ct_sz a + 2 = (d + ct_sz a + ct_sz c) + ct_sz b + 2 by omega]
      refine ihb _ _ _ _ h5 (cp_r1 ?_)
      refine ⟨cp_in h2 (by decide), ?_⟩
      rintro _ rfl
      rw [show d + ct_sz a + ct_sz c + ct_sz b + 2 = (d + ct_sz a + ct_sz b) + ct_sz c + 2 by omega]
      refine ihc _ _ _ _ h6 (cp_r1 ?_)
      rw [cp_ad, cp_ad, Nat.add_assoc]
      exact k)
theorem cp_207 {S : cm_S} : ∀ t, ct_wf t → ∀ (d : Nat) (p : Int32) (fp : List Nat) (K : cm_K), cl_t S t p fp → K (.inl (some (.int (if ct_hg (ct_fl t) = true then 1 else 0)))) S 0 → cm_At (am_XX L xs) (d + ct_sz t + 1) 207 0 [some (.ref 83), some (.int p)] [] S K :=
  ct_ind (fun d p fp K h k => by
    obtain ⟨rfl, _⟩ := h
    exact cx_207_0 _ ⟨fun _ => ⟨Or.inl rfl, k⟩, fun h => absurd rfl h⟩) (fun e a b c hw iha ihb ihc d p fp K h k => by
    obtain ⟨i, fa, fb, fc, rfl, h2, h3, h4, h5, h6, rfl⟩ := h
    have e1 : S.1 92 i = e.1 := by rw [← h3]
    have hm := cp_m1 (n := i) (by omega)
    have hg : ct_hg (ct_fl (ct_nd e a b c)) = (decide (e.1 = 3) || (ct_hg (ct_fl a) || (ct_hg (ct_fl b) || ct_hg (ct_fl c)))) := by
      rw [ct_fl_nd, ← ct_hg_app, ← ct_hg_app]
      exact List.any_cons
    rw [hg] at k
    rw [ct_sz_nd]
    refine cx_207_0 _ ⟨fun h => absurd h hm, fun _ => ⟨cp_in h2 (by decide), ?_⟩⟩
    rw [cp_cl (by omega)]
    rintro _ rfl
    rw [e1]
    refine ⟨fun hk => ⟨Or.inr rfl, ?_⟩, fun hk => ⟨cp_in h2 (by decide), ?_⟩⟩
    · rw [decide_eq_true hk] at k; exact k
    · rw [decide_eq_false hk] at k
      rintro _ rfl
      rw [show d + (1 + (ct_sz a + (ct_sz b + ct_sz c))) = (d + ct_sz b + ct_sz c) + ct_sz a + 1 by omega]
      refine iha _ _ _ _ h4 (cp_r1 ?_)
      cases ga : ct_hg (ct_fl a) with
      | true =>
        rw [ga] at k
        exact ⟨fun h => absurd h (by decide), fun _ => ⟨Or.inr rfl, k⟩⟩
      | false =>
        rw [ga] at k
        refine ⟨fun _ => ⟨cp_in h2 (by decide), ?_⟩, fun h => absurd rfl h⟩
        rintro _ rfl
        rw [show d + ct_sz b + ct_sz c + ct_sz a + 1 = (d + ct_sz a + ct_sz c) + ct_sz b + 1 by omega]
        refine ihb _ _ _ _ h5 (cp_r1 ?_)
        cases gb : ct_hg (ct_fl b) with
        | true =>
          rw [gb] at k
          exact ⟨fun h => absurd h (by decide), fun _ => ⟨Or.inr rfl, k⟩⟩
        | false =>
          rw [gb] at k
          refine ⟨fun _ => ⟨cp_in h2 (by decide), ?_⟩, fun h => absurd rfl h⟩
          rintro _ rfl
          rw [show d + ct_sz a + ct_sz c + ct_sz b + 1 = (d + ct_sz a + ct_sz b) + ct_sz c + 1 by omega]
          refine ihc _ _ _ _ h6 (cp_r1 ?_)
          cases gc : ct_hg (ct_fl c) with
          | true =>
            rw [gc] at k
            exact ⟨fun h => absurd h (by decide), fun _ => ⟨Or.inr rfl, k⟩⟩
          | false =>
            rw [gc] at k
            exact ⟨fun _ => ⟨Or.inl rfl, k⟩, fun h => absurd rfl h⟩)
/-- a tree is freed -/
theorem cp_194 : ∀ t, ct_wf t → ∀ (d : Nat) (S : cm_S) (p : Int32) (fp sp : List Nat) (nx : Nat) (K : cm_K), cl_t S t p fp → cl_al S sp nx → sp.length + ct_sz t ≤ 8192 →
    (∀ S2 l, l.Perm fp → cl_al S2 (l ++ sp) nx → cf_W cW_fr S S2 → K (.inl none) S2 0) → cm_At (am_XX L xs) (d + ct_sz t + 1) 194 0 [some (.ref 83), some (.int p)] [] S K :=
  ct_ind (fun d S p fp sp nx K h hal hl k => by
    obtain ⟨rfl, rfl⟩ := h
    exact cx_194_0 _ ⟨fun _ => k S [] (List.Perm.refl _) hal cf_rfl, fun h => absurd rfl h⟩) (fun e a b c hw iha ihb ihc d S p fp sp nx K h hal hl k => by
    obtain ⟨i, fa, fb, fc, rfl, h2, h3, h4, h5, h6, rfl⟩ := h
    obtain ⟨w1, w2, w3, w4, w5, w6, w7⟩ := ct_wf_nd hw
    have hm := cp_m1 (n := i) (by omega)
    have wf : ∀ (l : List Nat) b x, 92 ≤ b → b ≤ 98 → x ∈ l → cW_fr b x = false := fun l b x q1 q2 _ => decide_eq_false (by omega)
    have lena := (cl_t_len a w5 _ _ h4).1
    have lenb := (cl_t_len b w6 _ _ h5).1
    have lenc := (cl_t_len c w7 _ _ h6).1
    rw [ct_sz_nd] at hl ⊢
    refine cx_194_0 _ ⟨fun h => absurd h hm, fun _ => ⟨cp_in h2 (by decide), ?_⟩⟩
    rw [cp_cl (by omega)]
    rintro _ rfl
    rw [show d + (1 + (ct_sz a + (ct_sz b + ct_sz c))) = (d + ct_sz b + ct_sz c) + ct_sz a + 1 by omega]
    refine iha _ _ _ _ _ _ _ h4 hal (by omega) (fun S1 l1 p1 a1 c1 => cp_r0 ?_)
    refine ⟨cp_in h2 (by decide), ?_⟩
    rintro _ rfl
    rw [(c1 95 i (decide_eq_false (by omega))).1]
    have q1 := p1.length_eq
    rw [show d + ct_sz b + ct_sz c + ct_sz a + 1 = (d + ct_sz a + ct_sz c) + ct_sz b + 1 by omega]
    refine ihb _ _ _ _ _ _ _ (cl_t_cf c1 b w6 _ _ (wf _) h5) a1 (by rw [List.length_append]; omega) (fun S2 l2 p2 a2 c2 => cp_r0 ?_)
    refine ⟨cp_in h2 (by decide), ?_⟩
    rintro _ rfl
    rw [(c2 96 i (decide_eq_false (by omega))).1, (c1 96 i (decide_eq_false (by omega))).1]
    have q2 := p2.length_eq
    rw [show d + ct_sz a + ct_sz c + ct_sz b + 1 = (d + ct_sz a + ct_sz b) + ct_sz c + 1 by omega]
    refine ihc _ _ _ _ _ _ _ (cl_t_cf c2 c w7 _ _ (wf _) (cl_t_cf c1 c w7 _ _ (wf _) h6)) a2 (by rw [List.length_append, List.length_append]; omega) (fun S3 l3 p3 a3 c3 => cp_r0 ?_)
    have q3 := p3.length_eq
    have hlen : (l3 ++ (l2 ++ (l1 ++ sp))).length < 8192 := by simp only [List.length_append]; omega
    rintro _ rfl
    rw [a3.1]
    refine ⟨cp_in hlen (by decide), ?_⟩
    rintro _ rfl
    rintro _ rfl
    rintro _ rfl
    rw [cp_wI1, if_neg (by omega), a3.1, cp_cl (by omega), show Int32.ofNat (l3 ++ (l2 ++ (l1 ++ sp))).length + 1 = Int32.ofNat ((l3 ++ (l2 ++ (l1 ++ sp))).length + 1) from cp_ad (b := 1)]
    refine k _ (i :: (l3 ++ (l2 ++ l1))) ?_ ?_ (cf_tr c1 (cf_tr c2 (cf_tr c3 (cf_tr (cf_wI (decide_eq_true (by omega))) (cf_wI (decide_eq_true (by omega)))))))
    · refine List.Perm.cons _ ?_
      refine (p3.append (p2.append p1)).trans ?_
      refine List.perm_append_comm.trans ?_
      exact (List.Perm.append_right _ List.perm_append_comm).trans (by rw [List.append_assoc])
    · have hp := cl_push (x := i) a3 hlen
      rw [List.cons_append, List.append_assoc, List.append_assoc]
      exact hp)
end CP41
