/-! ## 48 the model's print of a core (printed by wip/whole/gen48.py) -/
def cW_pr (b j : Nat) : Bool := decide (b = 100 ∨ b = 83 ∧ (j = 20 ∨ j = 70))
/-- the variables that have been numbered -/
def cl_ps (S : cm_S) (P B : List Int32) : Prop := S.1 83 20 = Int32.ofNat P.length ∧ ∀ x, x ∈ P → S.1 100 x.toNatClampNeg = Int32.ofNat (ct_ix x B)
theorem cl_ps_wJ {S : cm_S} {P B : List Int32} {k : Nat} {y : Int64} (h : cl_ps S P B) : cl_ps (cm_wJ S 83 k y) P B := h
theorem ct_pr_app {p : Int64} {l2 : List ct_D} : ∀ {l : List ct_D} {p : Int64}, ct_pr p (l ++ l2) = ct_pr (ct_pr p l) l2
  | [], p => rfl
  | e :: l, p => by
    show ct_pr (ct_ps p e) (l ++ l2) = ct_pr (ct_pr (ct_ps p e) l) l2
    exact ct_pr_app (p := p)
def cl_prt (L : Nat) (xs : Nat → Int32) (B : List Int32) (u : ct_T) : Prop := ∀ (d : Nat) (S : cm_S) (p : Int32) (fp : List Nat) (P R : List Int32) (G : ct_G) (p0 : Int64) (K : cm_K), B = P ++ (ct_bo u ++ R) → ct_nb u → ct_nws u → ct_lx G u → (∀ x, G x → x ∈ P) → cl_t S u p fp → cl_ps S P B → S.2 83 70 = p0 →
  (∀ S2, S2.2 83 70 = ct_pr p0 ((ct_fl u).map (ct_rd (ct_fr 0 B))) → cl_ps S2 (P ++ ct_bo u) B → cf_W cW_pr S S2 → K (.inl none) S2 0) →
  cm_At (am_XX L xs) (d + ct_sz u + 2) 236 0 [some (.ref 83), some (.int p), none, none] [] S K
section CP48
variable {L : Nat} {xs : Nat → Int32} {d : Nat}
theorem cp_234 {S : cm_S} {K : cm_K} {y : Int64} (k : K (.inl none) (cm_wJ S 83 70 (31 * S.2 83 70 + y)) 0) : cm_At (am_XX L xs) (d + 1) 234 0 [some (.ref 83), some (.long y), none] [] S K := by
  refine cx_234_0 y ?_
  rintro _ rfl
  rintro _ rfl
  exact k
theorem cp_235 {S : cm_S} {K : cm_K} {P B R : List Int32} {x : Int32} (hB : B = P ++ (x :: R)) (hnd : B.Nodup) (hB0 : ∀ y, y ∈ B → 0 ≤ y.toInt ∧ y.toInt < 32768) (hlen : B.length < 100000) (hps : cl_ps S P B)
    (k : ∀ S2, cl_ps S2 (P ++ [x]) B → S2.2 83 70 = S.2 83 70 → cf_W cW_pr S S2 → K (.inl none) S2 0) : cm_At (am_XX L xs) (d + 1) 235 0 [some (.ref 83), some (.int x)] [] S K := by
  have hxB : x ∈ B := by rw [hB]; exact List.mem_append_right _ List.mem_cons_self
  obtain ⟨i, rfl, h1, h2⟩ := cp_of (hB0 x hxB).1
  have h3 := (hB0 _ hxB).2
  have hPl : P.length < B.length := by rw [hB, List.length_append, List.length_cons]; omega
  have hxP : ¬ Int32.ofNat i ∈ P := by
    rw [hB, List.nodup_append] at hnd
    exact fun hc => hnd.2.2 _ hc _ List.mem_cons_self rfl
  have hix : ct_ix (Int32.ofNat i) B = P.length := by rw [hB, ct_ix_no hxP, ct_ix_cons, if_pos rfl]; rfl
  refine cx_235_0 _ ⟨fun h => absurd h (cp_m1 h2), fun _ => ?_⟩
  rintro _ rfl
  rw [hps.1, cp_cl h2]
  refine ⟨cp_in (by omega) (by decide), ?_⟩
  rintro _ rfl
  rintro _ rfl
  rintro _ rfl
  rw [cp_wI1, if_neg (by omega), hps.1, show Int32.ofNat P.length + 1 = Int32.ofNat (P.length + 1) from cp_ad (b := 1)]
  refine k _ ⟨?_, fun y hy => ?_⟩ rfl (cf_tr (cf_wI (decide_eq_true (by omega))) (cf_wI (decide_eq_true (by omega))))
  · rw [cp_wI1, if_pos ⟨rfl, rfl⟩, List.length_append]; rfl
  · rw [cp_wI1, if_neg (by omega), cp_wI1]
    by_cases hyi : y = Int32.ofNat i
    · subst hyi
      rw [cp_cl h2, if_pos ⟨rfl, rfl⟩, hix]
    · have hyP : y ∈ P := by
        rcases List.mem_append.mp hy with hy | hy
        · exact hy
        · rw [List.mem_singleton] at hy; exact absurd hy hyi
      have hyB : y ∈ B := by rw [hB]; exact List.mem_append_left _ hyP
      rw [if_neg (fun hc => hyi (cp_nc (hB0 y hyB).1 (by rw [cp_tI h2]; omega) (by rw [cp_cl h2]; exact hc.2)))]
      exact hps.2 y hyP
theorem cp_235n {S : cm_S} {K : cm_K} (k : K (.inl none) S 0) : cm_At (am_XX L xs) (d + 1) 235 0 [some (.ref 83), some (.int (-1))] [] S K := cx_235_0 _ ⟨fun _ => k, fun h => absurd rfl h⟩
/-- what comes behind a node's own numbers -/
theorem cp_236c {B : List Int32} {e : ct_D} {a b c : ct_T} (iha : cl_prt L xs B a) (ihb : cl_prt L xs B b) (ihc : cl_prt L xs B c) (hw : ct_wf (ct_nd e a b c)) (hnd : B.Nodup) (hB0 : ∀ y, y ∈ B → 0 ≤ y.toInt ∧ y.toInt < 32768) (hlen : B.length < 100000)
    {S : cm_S} {i : Nat} {fa fb fc : List Nat} {P R : List Int32} {G : ct_G} {p0 : Int64} {K : cm_K} (hB : B = P ++ (ct_bo (ct_nd e a b c) ++ R)) (hnb : ct_nb (ct_nd e a b c)) (hnw : ct_nws (ct_nd e a b c)) (hlx : ct_lx G (ct_nd e a b c)) (hG : ∀ x, G x → x ∈ P) (h2 : i < 8192) (h3 : (S.1 92 i, S.2 93 i, S.1 97 i, S.1 98 i) = e) (h4 : cl_t S a (S.1 94 i) fa) (h5 : cl_t S b (S.1 95 i) fb) (h6 : cl_t S c (S.1 96 i) fc)
    (ps0 : cl_ps S P B) (pq0 : S.2 83 70 = p0) (k : ∀ S2, S2.2 83 70 = ct_pr p0 ((ct_fl a ++ (ct_fl b ++ ct_fl c)).map (ct_rd (ct_fr 0 B))) → cl_ps S2 (P ++ ct_bo (ct_nd e a b c)) B → cf_W cW_pr S S2 → K (.inl none) S2 0) :
    cm_At (am_XX L xs) (d + (ct_sz a + (ct_sz b + ct_sz c)) + 3) 236 72 [some (.ref 83), some (.int (Int32.ofNat i)), some (.int e.1), none] [] S K := by
  obtain ⟨w1, w2, w3, w4, w5, w6, w7⟩ := ct_wf_nd hw
  obtain ⟨bb0, na, nb, nc⟩ := ct_nb_nd hnb
  obtain ⟨n0, ma, mb, mc⟩ := ct_nws_nd hnw
  have e3 : S.1 97 i = e.2.2.1 := by rw [← h3]
  have e4 : S.1 98 i = e.2.2.2 := by rw [← h3]
  have cf0 : cf_W cW_pr S S := cf_rfl
  have hil : i < 2147483648 := by omega
  rw [ct_lx_nd] at hlx
  by_cases q2 : e.1 = 2
  · obtain ⟨l1, l2, l3⟩ := ct_leafs hw q2
    subst l1; subst l2; subst l3
    have hbo : ct_bo (ct_nd e .leaf .leaf .leaf) = [] := by
      rw [ct_bo_nd, if_neg (by rw [q2]; decide), if_neg (by rw [q2]; decide), if_neg (by rw [q2]; decide)]; rfl
    refine cx_236_72 _ _ ⟨fun h => absurd h (by rw [q2]; decide), fun _ => ⟨fun h => absurd h (by rw [q2]; decide), fun _ => ⟨fun _ => ?_, fun h => absurd rfl h⟩⟩⟩
    rw [cp_cl hil]
    refine cp_235n (cp_r0 ?_)
    refine ⟨cp_in h2 (by decide), ?_⟩
    rintro _ rfl
    rw [h4.1]
    refine cx_236_0 _ ⟨fun _ => cp_r0 ?_, fun h => absurd rfl h⟩
    refine ⟨fun h => absurd h (by rw [q2]; decide), fun _ => ⟨fun h => absurd h (by rw [q2]; decide), fun _ => ?_⟩⟩
    refine cp_235n (cp_r0 ?_)
    refine ⟨cp_in h2 (by decide), ?_⟩
    rintro _ rfl
    rw [h5.1]
    refine cx_236_0 _ ⟨fun _ => cp_r0 ?_, fun h => absurd rfl h⟩
    refine ⟨fun h => absurd h (by rw [q2]; decide), fun _ => ?_⟩
    refine cx_236_179 _ _ _ ⟨cp_in h2 (by decide), ?_⟩
    rw [cp_cl hil]
    rintro _ rfl
    rw [h6.1]
    refine cx_236_0 _ ⟨fun _ => cp_r0 ?_, fun h => absurd rfl h⟩
    exact k S pq0 (by rw [hbo, List.append_nil]; exact ps0) cf_rfl
  rw [if_neg q2] at hlx
  by_cases q47 : e.1 = 4 ∨ e.1 = 7
  · rw [if_pos q47] at hlx
    have hl := hlx
    have hbo : ct_bo (ct_nd e a b c) = e.2.2.1 :: (ct_bo a ++ (ct_bo b ++ ct_bo c)) := by rw [ct_bo_nd, if_pos q47]
    rw [hbo] at hB
    have q6 : ¬ e.1 = 6 := by rcases q47 with q | q <;> rw [q] <;> decide
    have q8 : ¬ e.1 = 8 := by rcases q47 with q | q <;> rw [q] <;> decide
    have q12 : ¬ e.1 = 12 := by rcases q47 with q | q <;> rw [q] <;> decide
    have go : cm_At (am_XX L xs) (d + (ct_sz a + (ct_sz b + ct_sz c)) + 3) 236 83 [some (.ref 83), some (.int (Int32.ofNat i)), some (.int e.1), none] [] S K := by
      refine cx_236_83 _ _ ⟨fun h => absurd h (by decide), fun _ => ?_⟩
      rw [cp_cl hil]
      refine ⟨cp_in h2 (by decide), ?_⟩
      rintro _ rfl
      rw [e3]
      refine cp_235 (P := P) (R := ct_bo a ++ (ct_bo b ++ (ct_bo c ++ (R)))) (by rw [hB]; simp only [List.append_assoc, List.cons_append, List.nil_append]) hnd hB0 hlen ps0 (fun S1 ps1 pp1 cg1 => cp_r0 ?_)
      have cf1 := cf_tr cf0 cg1
      have pq1 := pp1.trans pq0
      refine ⟨cp_in h2 (by decide), ?_⟩
      rintro _ rfl
      rw [(cf1 94 i rfl).1]
      rw [show d + (ct_sz a + (ct_sz b + ct_sz c)) + 2 = (d + ct_sz b + ct_sz c) + ct_sz a + 2 by omega]
      refine iha _ _ _ _ (P ++ [e.2.2.1]) (ct_bo b ++ (ct_bo c ++ (R))) (ct_ga G e.2.2.1) _ _ (by rw [hB]; simp only [List.append_assoc, List.cons_append, List.nil_append]) na ma hl.1 (fun x hx => by
          simp only [List.mem_append, List.mem_singleton]
          rcases hx with hx | hx
          · have := hG x hx; simp only [this, true_or]
          · simp only [hx, true_or, or_true]) (cl_t_cf cf1 a w5 _ _ (fun b x q1 q2 _ => decide_eq_false (by omega)) h4) ps1 pq1 (fun S2 pp2 ps2 cg2 => cp_r0 ?_)
      have cf2 := cf_tr cf1 cg2
      have pq2 := pp2
      refine ⟨fun h => absurd h q6, fun _ => ⟨fun h => absurd h q8, fun _ => ?_⟩⟩
      refine cp_235n (cp_r0 ?_)
      refine ⟨cp_in h2 (by decide), ?_⟩
      rintro _ rfl
      rw [(cf2 95 i rfl).1]
      rw [show d + ct_sz b + ct_sz c + ct_sz a + 2 = (d + ct_sz a + ct_sz c) + ct_sz b + 2 by omega]
      refine ihb _ _ _ _ ((P ++ [e.2.2.1]) ++ ct_bo a) (ct_bo c ++ (R)) (ct_ga G e.2.2.1) _ _ (by rw [hB]; simp only [List.append_assoc, List.cons_append, List.nil_append]) nb mb hl.2.1 (fun x hx => by
          simp only [List.mem_append, List.mem_singleton]
          rcases hx with hx | hx
          · have := hG x hx; simp only [this, true_or]
          · simp only [hx, true_or, or_true]) (cl_t_cf cf2 b w6 _ _ (fun b x q1 q2 _ => decide_eq_false (by omega)) h5) ps2 pq2 (fun S3 pp3 ps3 cg3 => cp_r0 ?_)
      have cf3 := cf_tr cf2 cg3
      have pq3 := pp3
      refine ⟨fun h => absurd h q12, fun _ => ?_⟩
      refine cx_236_179 _ _ _ ?_
      refine ⟨cp_in h2 (by decide), ?_⟩
      rintro _ rfl
      rw [cp_cl hil, (cf3 96 i rfl).1]
      rw [show d + ct_sz a + ct_sz c + ct_sz b + 2 = (d + ct_sz a + ct_sz b) + ct_sz c + 2 by omega]
      refine ihc _ _ _ _ (((P ++ [e.2.2.1]) ++ ct_bo a) ++ ct_bo b) (R) (ct_ga G e.2.2.1) _ _ (by rw [hB]; simp only [List.append_assoc, List.cons_append, List.nil_append]) nc mc hl.2.2 (fun x hx => by
          simp only [List.mem_append, List.mem_singleton]
          rcases hx with hx | hx
          · have := hG x hx; simp only [this, true_or]
          · simp only [hx, true_or, or_true]) (cl_t_cf cf3 c w7 _ _ (fun b x q1 q2 _ => decide_eq_false (by omega)) h6) ps3 pq3 (fun S4 pp4 ps4 cg4 => cp_r0 ?_)
      have cf4 := cf_tr cf3 cg4
      have pq4 := pp4
      refine k _ ?_ ?_ cf4
      · rw [pq4]; simp only [List.map_append, ct_pr_app (p := 0)]
      · have ps9 := ps4
        rw [hbo]
        simp only [List.append_assoc, List.cons_append, List.nil_append] at ps9 ⊢
        exact ps9
    exact cx_236_72 _ _ ⟨fun _ => go, fun h => ⟨fun _ => go, fun h7 => absurd q47 (fun hc => by rcases hc with hc | hc; exact h hc; exact h7 hc)⟩⟩
  rw [if_neg q47] at hlx
  have q4 : ¬ e.1 = 4 := fun h => q47 (Or.inl h)
  have q7 : ¬ e.1 = 7 := fun h => q47 (Or.inr h)
  refine cx_236_72 _ _ ⟨fun h => absurd h q4, fun _ => ⟨fun h => absurd h q7, fun _ => ⟨fun _ => ?_, fun h => absurd rfl h⟩⟩⟩
  rw [cp_cl hil]
  by_cases q68 : e.1 = 6 ∨ e.1 = 8
  · rw [if_pos q68] at hlx
    have hl := hlx
    have hbo : ct_bo (ct_nd e a b c) = ct_bo a ++ (e.2.2.1 :: (ct_bo b ++ ct_bo c)) := by rw [ct_bo_nd, if_neg q47, if_pos q68]
    rw [hbo] at hB
    have q12 : ¬ e.1 = 12 := by rcases q68 with q | q <;> rw [q] <;> decide
    refine cp_235n (cp_r0 ?_)
    refine ⟨cp_in h2 (by decide), ?_⟩
    rintro _ rfl
    rw [show d + (ct_sz a + (ct_sz b + ct_sz c)) + 2 = (d + ct_sz b + ct_sz c) + ct_sz a + 2 by omega]
    refine iha _ _ _ _ P (e.2.2.1 :: ct_bo b ++ (ct_bo c ++ (R))) (G) _ _ (by rw [hB]; simp only [List.append_assoc, List.cons_append, List.nil_append]) na ma hl.1 (hG) (cl_t_cf cf0 a w5 _ _ (fun b x q1 q2 _ => decide_eq_false (by omega)) h4) ps0 pq0 (fun S1 pp1 ps1 cg1 => cp_r0 ?_)
    have cf1 := cf_tr cf0 cg1
    have pq1 := pp1
    refine ⟨fun _ => ?_, fun h => ⟨fun _ => ?_, fun h8 => absurd q68 (fun hc => by rcases hc with hc | hc; exact h hc; exact h8 hc)⟩⟩
    · skip
      refine ⟨cp_in h2 (by decide), ?_⟩
      rintro _ rfl
      rw [(cf1 97 i rfl).1, e3]
      refine cp_235 (P := (P ++ ct_bo a)) (R := ct_bo b ++ (ct_bo c ++ (R))) (by rw [hB]; simp only [List.append_assoc, List.cons_append, List.nil_append]) hnd hB0 hlen ps1 (fun S2 ps2 pp2 cg2 => cp_r0 ?_)
      have cf2 := cf_tr cf1 cg2
      have pq2 := pp2.trans pq1
      refine ⟨cp_in h2 (by decide), ?_⟩
      rintro _ rfl
      rw [(cf2 95 i rfl).1]
      rw [show d + ct_sz b + ct_sz c + ct_sz a + 2 = (d + ct_sz a + ct_sz c) + ct_sz b + 2 by omega]
      refine ihb _ _ _ _ ((P ++ ct_bo a) ++ [e.2.2.1]) (ct_bo c ++ (R)) (ct_ga G e.2.2.1) _ _ (by rw [hB]; simp only [List.append_assoc, List.cons_append, List.nil_append]) nb mb hl.2.1 (fun x hx => by
          simp only [List.mem_append, List.mem_singleton]
          rcases hx with hx | hx
          · have := hG x hx; simp only [this, true_or]
          · simp only [hx, true_or, or_true]) (cl_t_cf cf2 b w6 _ _ (fun b x q1 q2 _ => decide_eq_false (by omega)) h5) ps2 pq2 (fun S3 pp3 ps3 cg3 => cp_r0 ?_)
      have cf3 := cf_tr cf2 cg3
      have pq3 := pp3
      refine ⟨fun h => absurd h q12, fun _ => ?_⟩
      refine cx_236_179 _ _ _ ?_
      refine ⟨cp_in h2 (by decide), ?_⟩
      rintro _ rfl
      rw [cp_cl hil, (cf3 96 i rfl).1]
      rw [show d + ct_sz a + ct_sz c + ct_sz b + 2 = (d + ct_sz a + ct_sz b) + ct_sz c + 2 by omega]
      refine ihc _ _ _ _ (((P ++ ct_bo a) ++ [e.2.2.1]) ++ ct_bo b) (R) (ct_ga G e.2.2.1) _ _ (by rw [hB]; simp only [List.append_assoc, List.cons_append, List.nil_append]) nc mc hl.2.2 (fun x hx => by
          simp only [List.mem_append, List.mem_singleton]
          rcases hx with hx | hx
          · have := hG x hx; simp only [this, true_or]
          · simp only [hx, true_or, or_true]) (cl_t_cf cf3 c w7 _ _ (fun b x q1 q2 _ => decide_eq_false (by omega)) h6) ps3 pq3 (fun S4 pp4 ps4 cg4 => cp_r0 ?_)
      have cf4 := cf_tr cf3 cg4
      have pq4 := pp4
      refine k _ ?_ ?_ cf4
      · rw [pq4]; simp only [List.map_append, ct_pr_app (p := 0)]
      · have ps9 := ps4
        rw [hbo]
        simp only [List.append_assoc, List.cons_append, List.nil_append] at ps9 ⊢
        exact ps9
    · skip
      refine ⟨cp_in h2 (by decide), ?_⟩
      rintro _ rfl
      rw [(cf1 97 i rfl).1, e3]
      refine cp_235 (P := (P ++ ct_bo a)) (R := ct_bo b ++ (ct_bo c ++ (R))) (by rw [hB]; simp only [List.append_assoc, List.cons_append, List.nil_append]) hnd hB0 hlen ps1 (fun S2 ps2 pp2 cg2 => cp_r0 ?_)
      have cf2 := cf_tr cf1 cg2
      have pq2 := pp2.trans pq1
      refine ⟨cp_in h2 (by decide), ?_⟩
      rintro _ rfl
      rw [(cf2 95 i rfl).1]
      rw [show d + ct_sz b + ct_sz c + ct_sz a + 2 = (d + ct_sz a + ct_sz c) + ct_sz b + 2 by omega]
      refine ihb _ _ _ _ ((P ++ ct_bo a) ++ [e.2.2.1]) (ct_bo c ++ (R)) (ct_ga G e.2.2.1) _ _ (by rw [hB]; simp only [List.append_assoc, List.cons_append, List.nil_append]) nb mb hl.2.1 (fun x hx => by
          simp only [List.mem_append, List.mem_singleton]
          rcases hx with hx | hx
          · have := hG x hx; simp only [this, true_or]
          · simp only [hx, true_or, or_true]) (cl_t_cf cf2 b w6 _ _ (fun b x q1 q2 _ => decide_eq_false (by omega)) h5) ps2 pq2 (fun S3 pp3 ps3 cg3 => cp_r0 ?_)
      have cf3 := cf_tr cf2 cg3
      have pq3 := pp3
      refine ⟨fun h => absurd h q12, fun _ => ?_⟩
      refine cx_236_179 _ _ _ ?_
      refine ⟨cp_in h2 (by decide), ?_⟩
      rintro _ rfl
      rw [cp_cl hil, (cf3 96 i rfl).1]
      rw [show d + ct_sz a + ct_sz c + ct_sz b + 2 = (d + ct_sz a + ct_sz b) + ct_sz c + 2 by omega]
      refine ihc _ _ _ _ (((P ++ ct_bo a) ++ [e.2.2.1]) ++ ct_bo b) (R) (ct_ga G e.2.2.1) _ _ (by rw [hB]; simp only [List.append_assoc, List.cons_append, List.nil_append]) nc mc hl.2.2 (fun x hx => by
          simp only [List.mem_append, List.mem_singleton]
          rcases hx with hx | hx
          · have := hG x hx; simp only [this, true_or]
          · simp only [hx, true_or, or_true]) (cl_t_cf cf3 c w7 _ _ (fun b x q1 q2 _ => decide_eq_false (by omega)) h6) ps3 pq3 (fun S4 pp4 ps4 cg4 => cp_r0 ?_)
      have cf4 := cf_tr cf3 cg4
      have pq4 := pp4
      refine k _ ?_ ?_ cf4
      · rw [pq4]; simp only [List.map_append, ct_pr_app (p := 0)]
      · have ps9 := ps4
        rw [hbo]
        simp only [List.append_assoc, List.cons_append, List.nil_append] at ps9 ⊢
        exact ps9
  rw [if_neg q68] at hlx
  have q6 : ¬ e.1 = 6 := fun h => q68 (Or.inl h)
  have q8 : ¬ e.1 = 8 := fun h => q68 (Or.inr h)
  by_cases q12 : e.1 = 12
  · rw [if_pos q12] at hlx
    have hl := hlx
    have hbo : ct_bo (ct_nd e a b c) = ct_bo a ++ (ct_bo b ++ (e.2.2.1 :: e.2.2.2 :: ct_bo c)) := by rw [ct_bo_nd, if_neg q47, if_neg q68, if_pos q12]
    rw [hbo] at hB
    refine cp_235n (cp_r0 ?_)
    refine ⟨cp_in h2 (by decide), ?_⟩
    rintro _ rfl
    rw [show d + (ct_sz a + (ct_sz b + ct_sz c)) + 2 = (d + ct_sz b + ct_sz c) + ct_sz a + 2 by omega]
    refine iha _ _ _ _ P (ct_bo b ++ (e.2.2.1 :: e.2.2.2 :: ct_bo c ++ (R))) (G) _ _ (by rw [hB]; simp only [List.append_assoc, List.cons_append, List.nil_append]) na ma hl.1 (hG) (cl_t_cf cf0 a w5 _ _ (fun b x q1 q2 _ => decide_eq_false (by omega)) h4) ps0 pq0 (fun S1 pp1 ps1 cg1 => cp_r0 ?_)
    have cf1 := cf_tr cf0 cg1
    have pq1 := pp1
    refine ⟨fun h => absurd h q6, fun _ => ⟨fun h => absurd h q8, fun _ => ?_⟩⟩
    refine cp_235n (cp_r0 ?_)
    refine ⟨cp_in h2 (by decide), ?_⟩
    rintro _ rfl
    rw [(cf1 95 i rfl).1]
    rw [show d + ct_sz b + ct_sz c + ct_sz a + 2 = (d + ct_sz a + ct_sz c) + ct_sz b + 2 by omega]
    refine ihb _ _ _ _ (P ++ ct_bo a) (e.2.2.1 :: e.2.2.2 :: ct_bo c ++ (R)) (G) _ _ (by rw [hB]; simp only [List.append_assoc, List.cons_append, List.nil_append]) nb mb hl.2.1 (fun x hx => by
        have := hG x hx
        simp only [List.mem_append, List.mem_singleton]
        simp only [this, true_or]) (cl_t_cf cf1 b w6 _ _ (fun b x q1 q2 _ => decide_eq_false (by omega)) h5) ps1 pq1 (fun S2 pp2 ps2 cg2 => cp_r0 ?_)
    have cf2 := cf_tr cf1 cg2
    have pq2 := pp2
    refine ⟨fun _ => ?_, fun h => absurd q12 h⟩
    refine ⟨cp_in h2 (by decide), ?_⟩
    rintro _ rfl
    rw [(cf2 97 i rfl).1, e3]
    refine cp_235 (P := ((P ++ ct_bo a) ++ ct_bo b)) (R := e.2.2.2 :: ct_bo c ++ (R)) (by rw [hB]; simp only [List.append_assoc, List.cons_append, List.nil_append]) hnd hB0 hlen ps2 (fun S3 ps3 pp3 cg3 => cp_r0 ?_)
    have cf3 := cf_tr cf2 cg3
    have pq3 := pp3.trans pq2
    refine ⟨cp_in h2 (by decide), ?_⟩
    rintro _ rfl
    rw [(cf3 98 i rfl).1, e4]
    refine cp_235 (P := (((P ++ ct_bo a) ++ ct_bo b) ++ [e.2.2.1])) (R := ct_bo c ++ (R)) (by rw [hB]; simp only [List.append_assoc, List.cons_append, List.nil_append]) hnd hB0 hlen ps3 (fun S4 ps4 pp4 cg4 => cp_r0 ?_)
    have cf4 := cf_tr cf3 cg4
    have pq4 := pp4.trans pq3
    refine cx_236_179 _ _ _ ?_
    refine ⟨cp_in h2 (by decide), ?_⟩
    rintro _ rfl
    rw [cp_cl hil, (cf4 96 i rfl).1]
    rw [show d + ct_sz a + ct_sz c + ct_sz b + 2 = (d + ct_sz a + ct_sz b) + ct_sz c + 2 by omega]
    refine ihc _ _ _ _ ((((P ++ ct_bo a) ++ ct_bo b) ++ [e.2.2.1]) ++ [e.2.2.2]) (R) (ct_ga (ct_ga G e.2.2.1) e.2.2.2) _ _ (by rw [hB]; simp only [List.append_assoc, List.cons_append, List.nil_append]) nc mc hl.2.2 (fun x hx => by
        simp only [List.mem_append, List.mem_singleton]
        rcases hx with (hx | hx) | hx
        · have := hG x hx; simp only [this, true_or]
        · simp only [hx, true_or, or_true]
        · simp only [hx, true_or, or_true]) (cl_t_cf cf4 c w7 _ _ (fun b x q1 q2 _ => decide_eq_false (by omega)) h6) ps4 pq4 (fun S5 pp5 ps5 cg5 => cp_r0 ?_)
    have cf5 := cf_tr cf4 cg5
    have pq5 := pp5
    refine k _ ?_ ?_ cf5
    · rw [pq5]; simp only [List.map_append, ct_pr_app (p := 0)]
    · have ps9 := ps5
      rw [hbo]
      simp only [List.append_assoc, List.cons_append, List.nil_append] at ps9 ⊢
      exact ps9
  · rw [if_neg q12] at hlx
    have hl := hlx
    have hbo : ct_bo (ct_nd e a b c) = ct_bo a ++ (ct_bo b ++ ct_bo c) := by rw [ct_bo_nd, if_neg q47, if_neg q68, if_neg q12]
    rw [hbo] at hB
    refine cp_235n (cp_r0 ?_)
    refine ⟨cp_in h2 (by decide), ?_⟩
    rintro _ rfl
    rw [show d + (ct_sz a + (ct_sz b + ct_sz c)) + 2 = (d + ct_sz b + ct_sz c) + ct_sz a + 2 by omega]
    refine iha _ _ _ _ P (ct_bo b ++ (ct_bo c ++ (R))) (G) _ _ (by rw [hB]; simp only [List.append_assoc, List.cons_append, List.nil_append]) na ma hl.1 (hG) (cl_t_cf cf0 a w5 _ _ (fun b x q1 q2 _ => decide_eq_false (by omega)) h4) ps0 pq0 (fun S1 pp1 ps1 cg1 => cp_r0 ?_)
    have cf1 := cf_tr cf0 cg1
    have pq1 := pp1
    refine ⟨fun h => absurd h q6, fun _ => ⟨fun h => absurd h q8, fun _ => ?_⟩⟩
    refine cp_235n (cp_r0 ?_)
    refine ⟨cp_in h2 (by decide), ?_⟩
    rintro _ rfl
    rw [(cf1 95 i rfl).1]
    rw [show d + ct_sz b + ct_sz c + ct_sz a + 2 = (d + ct_sz a + ct_sz c) + ct_sz b + 2 by omega]
    refine ihb _ _ _ _ (P ++ ct_bo a) (ct_bo c ++ (R)) (G) _ _ (by rw [hB]; simp only [List.append_assoc, List.cons_append, List.nil_append]) nb mb hl.2.1 (fun x hx => by
        have := hG x hx
        simp only [List.mem_append, List.mem_singleton]
        simp only [this, true_or]) (cl_t_cf cf1 b w6 _ _ (fun b x q1 q2 _ => decide_eq_false (by omega)) h5) ps1 pq1 (fun S2 pp2 ps2 cg2 => cp_r0 ?_)
    have cf2 := cf_tr cf1 cg2
    have pq2 := pp2
    refine ⟨fun h => absurd h q12, fun _ => ?_⟩
    refine cx_236_179 _ _ _ ?_
    refine ⟨cp_in h2 (by decide), ?_⟩
    rintro _ rfl
    rw [cp_cl hil, (cf2 96 i rfl).1]
    rw [show d + ct_sz a + ct_sz c + ct_sz b + 2 = (d + ct_sz a + ct_sz b) + ct_sz c + 2 by omega]
    refine ihc _ _ _ _ ((P ++ ct_bo a) ++ ct_bo b) (R) (G) _ _ (by rw [hB]; simp only [List.append_assoc, List.cons_append, List.nil_append]) nc mc hl.2.2 (fun x hx => by
        have := hG x hx
        simp only [List.mem_append, List.mem_singleton]
        simp only [this, true_or]) (cl_t_cf cf2 c w7 _ _ (fun b x q1 q2 _ => decide_eq_false (by omega)) h6) ps2 pq2 (fun S3 pp3 ps3 cg3 => cp_r0 ?_)
    have cf3 := cf_tr cf2 cg3
    have pq3 := pp3
    refine k _ ?_ ?_ cf3
    · rw [pq3]; simp only [List.map_append, ct_pr_app (p := 0)]
    · have ps9 := ps3
      rw [hbo]
      simp only [List.append_assoc, List.cons_append, List.nil_append] at ps9 ⊢
      exact ps9
end CP48
