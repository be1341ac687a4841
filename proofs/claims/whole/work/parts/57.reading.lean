/-! ## 57 the model reads a node: what holds meanwhile -/
def cW_rd (nx n b j : Nat) : Bool := decide (92 ≤ b ∧ b ≤ 98 ∧ nx ≤ j ∧ j < nx + n ∨ b = 83 ∧ (j = 9 ∨ j = 17 ∨ j = 19 ∨ j = 20) ∨ b = 91)
theorem cW_rd_mono {a n b m : Nat} (h1 : b ≤ a) (h2 : a + n ≤ b + m) {S S2 : cm_S} (h : cf_W (cW_rd a n) S S2) : cf_W (cW_rd b m) S S2 := cf_mono h (fun c j hc => decide_eq_true (by have hc := of_decide_eq_true hc; omega))
/-- what is bound, what is free, where there is room -/
def cl_rs (N : List ct_E) (B : List Int32) (S : cm_S) (σ : Int32 → Int32) (nx m : Nat) : Prop := cl_n S N ∧ cl_al S [] nx ∧ S.1 83 20 = Int32.ofNat m ∧ (∀ v : Nat, v < 26 → S.1 91 v = ct_fr 0 B (σ (Int32.ofNat v))) ∧ (S.1 83 9 = 0 ∨ S.1 83 9 = 1)
def cl_fg (F : Prop) (x y : Int32) : Prop := (F → y = x) ∧ (¬ F → y = 1)
theorem cl_fg_and {F G : Prop} {x y z : Int32} (h : cl_fg F x y) (h2 : cl_fg G y z) : cl_fg (F ∧ G) x z := by
  refine ⟨fun hc => (h2.1 hc.2).trans (h.1 hc.1), fun hc => ?_⟩
  by_cases hG : G
  · exact (h2.1 hG).trans (h.2 (fun hF => hc ⟨hF, hG⟩))
  · exact h2.2 hG
def cl_rd (L : Nat) (xs : Nat → Int32) (N : List ct_E) (B : List Int32) (i : Int32) (σ : Int32 → Int32) (t : ct_T) : Prop := ct_wf t → ∀ (D : Nat) (S : cm_S) (nx : Nat) (P R : List Int32) (K : cm_K), 2 * ct_sz t + 3 ≤ D → B = P ++ (ct_bo t ++ R) → nx + ct_sz t ≤ 8192 → cl_rs N B S σ nx P.length →
  (∀ S2 q, cl_t S2 (ct_map (ct_fr 0 B) t) q (List.range' nx (ct_sz t)) → cl_rs N B S2 σ (nx + ct_sz t) (P.length + (ct_bo t).length) → cl_fg (ct_fx t) (S.1 83 9) (S2.1 83 9) → cf_W (cW_rd nx (ct_sz t)) S S2 → K (.inl (some (.int q))) S2 0) →
  cm_At (am_XX L xs) D 196 0 [some (.ref 83), some (.int i), none] [] S K
/-- a node under way -/
def cl_sg (S : cm_S) (nx : Nat) (e : ct_D) (a : ct_T) (fa : List Nat) (b : ct_T) (fb : List Nat) (c : ct_T) (fc : List Nat) : Prop := (S.1 92 nx, S.2 93 nx, S.1 97 nx, S.1 98 nx) = e ∧ cl_t S a (S.1 94 nx) fa ∧ cl_t S b (S.1 95 nx) fb ∧ cl_t S c (S.1 96 nx) fc
theorem cl_sg_fr {W : Nat → Nat → Bool} {S S2 : cm_S} {nx : Nat} {e : ct_D} {a b c : ct_T} {fa fb fc : List Nat} (wa : ct_wf a) (wb : ct_wf b) (wc : ct_wf c) (hc : cf_W W S S2) (h0 : ∀ r, 92 ≤ r → r ≤ 98 → W r nx = false) (h1 : ∀ r x, 92 ≤ r → r ≤ 98 → x ∈ fa ∨ x ∈ fb ∨ x ∈ fc → W r x = false) (h : cl_sg S nx e a fa b fb c fc) : cl_sg S2 nx e a fa b fb c fc := by
  obtain ⟨g1, g2, g3, g4⟩ := h
  refine ⟨?_, ?_, ?_, ?_⟩
  · rw [(hc 92 nx (h0 _ (by omega) (by omega))).1, (hc 93 nx (h0 _ (by omega) (by omega))).2, (hc 97 nx (h0 _ (by omega) (by omega))).1, (hc 98 nx (h0 _ (by omega) (by omega))).1]; exact g1
  · rw [(hc 94 nx (h0 _ (by omega) (by omega))).1]; exact cl_t_cf hc a wa _ _ (fun r x q1 q2 q3 => h1 r x q1 q2 (Or.inl q3)) g2
  · rw [(hc 95 nx (h0 _ (by omega) (by omega))).1]; exact cl_t_cf hc b wb _ _ (fun r x q1 q2 q3 => h1 r x q1 q2 (Or.inr (Or.inl q3))) g3
  · rw [(hc 96 nx (h0 _ (by omega) (by omega))).1]; exact cl_t_cf hc c wc _ _ (fun r x q1 q2 q3 => h1 r x q1 q2 (Or.inr (Or.inr q3))) g4
theorem cl_rs_fr {N : List ct_E} {B : List Int32} {W : Nat → Nat → Bool} {S S2 : cm_S} {σ : Int32 → Int32} {nx m : Nat} (hc : cf_W W S S2) (h0 : W 83 0 = false ∧ W 83 9 = false ∧ W 83 17 = false ∧ W 83 19 = false ∧ W 83 20 = false) (h1 : ∀ r j, 84 ≤ r → r ≤ 91 → W r j = false) (h : cl_rs N B S σ nx m) : cl_rs N B S2 σ nx m := by
  obtain ⟨⟨n1, n2, n3⟩, ⟨a1, a2, a3⟩, g3, g4, g5⟩ := h
  obtain ⟨w0, w9, w17, w19, w20⟩ := h0
  refine ⟨⟨n1, (hc _ _ w0).1.trans n2, fun i e he => ?_⟩, ⟨(hc _ _ w19).1.trans a1, (hc _ _ w17).1.trans a2, trivial⟩, (hc _ _ w20).1.trans g3, fun v hv => (hc _ _ (h1 91 v (by omega) (by omega))).1.trans (g4 v hv), by rw [(hc _ _ w9).1]; exact g5⟩
  obtain ⟨e1, e2, e3, e4, e5, e6, e7⟩ := n3 i e he
  exact ⟨(hc _ _ (h1 84 i (by omega) (by omega))).1.trans e1, (hc _ _ (h1 85 i (by omega) (by omega))).2.trans e2, (hc _ _ (h1 86 i (by omega) (by omega))).1.trans e3, (hc _ _ (h1 87 i (by omega) (by omega))).1.trans e4, (hc _ _ (h1 88 i (by omega) (by omega))).1.trans e5, (hc _ _ (h1 89 i (by omega) (by omega))).1.trans e6, (hc _ _ (h1 90 i (by omega) (by omega))).1.trans e7⟩
theorem cl_rs_w {N : List ct_E} {B : List Int32} {S : cm_S} {σ : Int32 → Int32} {nx m r j : Nat} {x : Int32} (h1 : 92 ≤ r) (h2 : r ≤ 98) (h : cl_rs N B S σ nx m) : cl_rs N B (cm_wI S r j x) σ nx m :=
  cl_rs_fr (W := fun b _ => decide (b = r)) (cf_wI (decide_eq_true rfl)) ⟨decide_eq_false (by omega), decide_eq_false (by omega), decide_eq_false (by omega), decide_eq_false (by omega), decide_eq_false (by omega)⟩ (fun b _ q1 q2 => decide_eq_false (by omega)) h
theorem cl_rs_20 {N : List ct_E} {B : List Int32} {S : cm_S} {σ : Int32 → Int32} {nx m m2 : Nat} (h : cl_rs N B S σ nx m) : cl_rs N B (cm_wI S 83 20 (Int32.ofNat m2)) σ nx m2 := by
  obtain ⟨⟨n1, n2, n3⟩, ⟨a1, a2, a3⟩, g3, g4, g5⟩ := h
  have hc : cf_W (fun b j => decide (b = 83 ∧ j = 20)) S (cm_wI S 83 20 (Int32.ofNat m2)) := cf_wI (decide_eq_true ⟨rfl, rfl⟩)
  have h1 : ∀ r j, 84 ≤ r → (decide (r = 83 ∧ j = 20)) = false := fun r j h => decide_eq_false (by omega)
  refine ⟨⟨n1, (hc _ _ (by decide)).1.trans n2, fun i e he => ?_⟩, ⟨(hc _ _ (by decide)).1.trans a1, (hc _ _ (by decide)).1.trans a2, trivial⟩, by rw [cp_wI1, if_pos ⟨rfl, rfl⟩], fun v hv => (hc _ _ (h1 91 v (by omega))).1.trans (g4 v hv), by rw [(hc 83 9 (by decide)).1]; exact g5⟩
  obtain ⟨e1, e2, e3, e4, e5, e6, e7⟩ := n3 i e he
  exact ⟨(hc _ _ (h1 84 i (by omega))).1.trans e1, (hc _ _ (h1 85 i (by omega))).2.trans e2, (hc _ _ (h1 86 i (by omega))).1.trans e3, (hc _ _ (h1 87 i (by omega))).1.trans e4, (hc _ _ (h1 88 i (by omega))).1.trans e5, (hc _ _ (h1 89 i (by omega))).1.trans e6, (hc _ _ (h1 90 i (by omega))).1.trans e7⟩
theorem cl_rs_91 {N : List ct_E} {B : List Int32} {S : cm_S} {σ τ : Int32 → Int32} {nx m v : Nat} {x : Int32} (hx : ∀ u, u < 26 → (if u = v then x else S.1 91 u) = ct_fr 0 B (τ (Int32.ofNat u))) (h : cl_rs N B S σ nx m) : cl_rs N B (cm_wI S 91 v x) τ nx m := by
  obtain ⟨⟨n1, n2, n3⟩, ⟨a1, a2, a3⟩, g3, g4, g5⟩ := h
  have hc : cf_W (fun b _ => decide (b = 91)) S (cm_wI S 91 v x) := cf_wI (decide_eq_true rfl)
  have h1 : ∀ r, ¬ r = 91 → (decide (r = 91)) = false := fun r h => decide_eq_false h
  refine ⟨⟨n1, (hc _ _ (by decide)).1.trans n2, fun i e he => ?_⟩, ⟨(hc _ _ (by decide)).1.trans a1, (hc _ _ (by decide)).1.trans a2, trivial⟩, (hc _ _ (by decide)).1.trans g3, fun u hu => ?_, by rw [(hc 83 9 (by decide)).1]; exact g5⟩
  · obtain ⟨e1, e2, e3, e4, e5, e6, e7⟩ := n3 i e he
    exact ⟨(hc _ _ (h1 84 (by omega))).1.trans e1, (hc _ _ (h1 85 (by omega))).2.trans e2, (hc _ _ (h1 86 (by omega))).1.trans e3, (hc _ _ (h1 87 (by omega))).1.trans e4, (hc _ _ (h1 88 (by omega))).1.trans e5, (hc _ _ (h1 89 (by omega))).1.trans e6, (hc _ _ (h1 90 (by omega))).1.trans e7⟩
  · rw [← hx u hu, cp_wI1]
    by_cases huv : u = v
    · rw [if_pos ⟨rfl, huv⟩, if_pos huv]
    · rw [if_neg (fun hc => huv hc.2), if_neg huv]
theorem ct_fr_at {B P R : List Int32} {y : Int32} (hnd : B.Nodup) (hB : B = P ++ (y :: R)) : ct_fr 0 B y = Int32.ofNat P.length := by
  subst hB
  have hy : ¬ y ∈ P := fun hc => (List.nodup_append.mp hnd).2.2 y hc y List.mem_cons_self rfl
  unfold ct_fr
  rw [if_pos (List.mem_append_right _ List.mem_cons_self), ct_ix_no hy, ct_ix_cons, if_pos rfl, Nat.zero_add, Nat.add_zero]
/-- a name more is bound -/
theorem cl_rs_us {N : List ct_E} {B P R : List Int32} {S : cm_S} {σ : Int32 → Int32} {nx m v : Nat} {y : Int32} (hnd : B.Nodup) (hB : B = P ++ (y :: R)) (hv : v < 26) (h : cl_rs N B S σ nx m) : cl_rs N B (cm_wI S 91 v (Int32.ofNat P.length)) (ct_us σ (Int32.ofNat v) y) nx m :=
  cl_rs_91 (fun u hu => by
    unfold ct_us
    rw [if_neg (cp_m1 (by omega))]
    by_cases huv : u = v
    · rw [if_pos huv, if_pos (by rw [huv]), ct_fr_at hnd hB]
    · rw [if_neg huv, if_neg (fun hc => huv ((cp_inj (by omega) (by omega)).mp hc)), h.2.2.2.1 u hu]) h
section CP57
variable {L : Nat} {xs : Nat → Int32} {N : List ct_E} {B : List Int32}
theorem cl_sg_a {S : cm_S} {nx : Nat} {e : ct_D} {a b c t : ct_T} {fa fb fc l : List Nat} {q : Int32} (wa : ct_wf a) (wb : ct_wf b) (wc : ct_wf c) (wt : ct_wf t) (hf : ∀ x, x ∈ fa ∨ x ∈ fb ∨ x ∈ fc → ¬ x = nx) (hl : ∀ x, x ∈ l → ¬ x = nx) (h : cl_sg S nx e a fa b fb c fc) (ht : cl_t S t q l) : cl_sg (cm_wI S 94 nx q) nx e t l b fb c fc := by
  obtain ⟨g1, g2, g3, g4⟩ := h
  have hc : cf_W (fun b j => decide (b = 94 ∧ j = nx)) S (cm_wI S 94 nx q) := cf_wI (decide_eq_true ⟨rfl, rfl⟩)
  have hn : ∀ (r x : Nat), ¬ x = nx → (decide (r = 94 ∧ x = nx)) = false := fun r x h => decide_eq_false (fun hc => h hc.2)
  have hr : ∀ r : Nat, ¬ r = 94 → (decide (r = 94 ∧ nx = nx)) = false := fun r h => decide_eq_false (fun hc => h hc.1)
  refine ⟨?_, ?_, ?_, ?_⟩
  · rw [(hc 92 nx (hr _ (by omega))).1, (hc 93 nx (hr _ (by omega))).2, (hc 97 nx (hr _ (by omega))).1, (hc 98 nx (hr _ (by omega))).1]; exact g1
  · rw [cp_wI1, if_pos ⟨rfl, rfl⟩]; exact cl_t_cf hc t wt _ _ (fun r x _ _ q3 => hn r x (hl x q3)) ht
  · rw [(hc 95 nx (hr _ (by omega))).1]; exact cl_t_cf hc b wb _ _ (fun r x _ _ q3 => hn r x (hf x (Or.inr (Or.inl q3)))) g3
  · rw [(hc 96 nx (hr _ (by omega))).1]; exact cl_t_cf hc c wc _ _ (fun r x _ _ q3 => hn r x (hf x (Or.inr (Or.inr q3)))) g4
theorem cp_ra {σ : Int32 → Int32} {i : Int32} {t a b c : ct_T} {fa fb fc : List Nat} {D nx lo : Nat} {S : cm_S} {e : ct_D} {P R : List Int32} {Q : cm_S → Nat → Prop} {E : cm_S → Nat → Nat → Prop} (ih : cl_rd L xs N B i σ t) (wt : ct_wf t) (wa : ct_wf a) (wb : ct_wf b) (wc : ct_wf c) (hD : 2 * ct_sz t + 3 ≤ D) (hB : B = P ++ (ct_bo t ++ R)) (hcap : lo + ct_sz t ≤ 8192) (hs : cl_rs N B S σ lo P.length) (hg : cl_sg S nx e a fa b fb c fc) (hlo : nx < lo) (hf : ∀ x, x ∈ fa ∨ x ∈ fb ∨ x ∈ fc → nx < x ∧ x < lo) (hn : nx < 8192)
    (k : ∀ S3, cl_rs N B S3 σ (lo + ct_sz t) (P.length + (ct_bo t).length) → cl_sg S3 nx e (ct_map (ct_fr 0 B) t) (List.range' lo (ct_sz t)) b fb c fc → cl_fg (ct_fx t) (S.1 83 9) (S3.1 83 9) → cf_W (cW_rd nx (lo + ct_sz t - nx)) S S3 → Q S3 0) :
    cm_At (am_XX L xs) D 196 0 [some (.ref 83), some (.int i), none] [] S (fun r S2 k2 => cm_r1 (fun x => am_in (Int32.ofNat nx) 8192 ∧ ∀ S3, S3 = cm_wI S2 94 nx x → Q S3 k2) (E S2 k2) r) := by
  refine ih wt D S lo P R _ hD hB hcap hs (fun S2 q t2 s2 f2 c2 => cp_r1 ⟨cp_in hn (by decide), ?_⟩)
  rintro _ rfl
  have hl : ∀ x, x ∈ (List.range' lo (ct_sz t)) → ¬ x = nx := fun x hx => by
    have := List.mem_range'_1.mp hx
    omega
  have h2 := cl_sg_fr wa wb wc c2 (fun r q1 q2 => decide_eq_false (by omega)) (fun r x q1 q2 q3 => decide_eq_false (by have := hf x q3; omega)) hg
  refine k _ (cl_rs_w (by omega) (by omega) s2) (cl_sg_a wa wb wc (ct_map_wf t wt) (fun x hx => by have := hf x hx; omega) hl h2 t2) ?_ (cf_tr (cW_rd_mono (by omega) (by omega) c2) (cf_wI (decide_eq_true (by omega))))
  rw [cp_wI1, if_neg (by omega)]
  exact f2
theorem cl_sg_b {S : cm_S} {nx : Nat} {e : ct_D} {a b c t : ct_T} {fa fb fc l : List Nat} {q : Int32} (wa : ct_wf a) (wb : ct_wf b) (wc : ct_wf c) (wt : ct_wf t) (hf : ∀ x, x ∈ fa ∨ x ∈ fb ∨ x ∈ fc → ¬ x = nx) (hl : ∀ x, x ∈ l → ¬ x = nx) (h : cl_sg S nx e a fa b fb c fc) (ht : cl_t S t q l) : cl_sg (cm_wI S 95 nx q) nx e a fa t l c fc := by
  obtain ⟨g1, g2, g3, g4⟩ := h
  have hc : cf_W (fun b j => decide (b = 95 ∧ j = nx)) S (cm_wI S 95 nx q) := cf_wI (decide_eq_true ⟨rfl, rfl⟩)
  have hn : ∀ (r x : Nat), ¬ x = nx → (decide (r = 95 ∧ x = nx)) = false := fun r x h => decide_eq_false (fun hc => h hc.2)
  have hr : ∀ r : Nat, ¬ r = 95 → (decide (r = 95 ∧ nx = nx)) = false := fun r h => decide_eq_false (fun hc => h hc.1)
  refine ⟨?_, ?_, ?_, ?_⟩
  · rw [(hc 92 nx (hr _ (by omega))).1, (hc 93 nx (hr _ (by omega))).2, (hc 97 nx (hr _ (by omega))).1, (hc 98 nx (hr _ (by omega))).1]; exact g1
  · rw [(hc 94 nx (hr _ (by omega))).1]; exact cl_t_cf hc a wa _ _ (fun r x _ _ q3 => hn r x (hf x (Or.inl q3))) g2
  · rw [cp_wI1, if_pos ⟨rfl, rfl⟩]; exact cl_t_cf hc t wt _ _ (fun r x _ _ q3 => hn r x (hl x q3)) ht
  · rw [(hc 96 nx (hr _ (by omega))).1]; exact cl_t_cf hc c wc _ _ (fun r x _ _ q3 => hn r x (hf x (Or.inr (Or.inr q3)))) g4
theorem cp_rb {σ : Int32 → Int32} {i : Int32} {t a b c : ct_T} {fa fb fc : List Nat} {D nx lo : Nat} {S : cm_S} {e : ct_D} {P R : List Int32} {Q : cm_S → Nat → Prop} {E : cm_S → Nat → Nat → Prop} (ih : cl_rd L xs N B i σ t) (wt : ct_wf t) (wa : ct_wf a) (wb : ct_wf b) (wc : ct_wf c) (hD : 2 * ct_sz t + 3 ≤ D) (hB : B = P ++ (ct_bo t ++ R)) (hcap : lo + ct_sz t ≤ 8192) (hs : cl_rs N B S σ lo P.length) (hg : cl_sg S nx e a fa b fb c fc) (hlo : nx < lo) (hf : ∀ x, x ∈ fa ∨ x ∈ fb ∨ x ∈ fc → nx < x ∧ x < lo) (hn : nx < 8192)
    (k : ∀ S3, cl_rs N B S3 σ (lo + ct_sz t) (P.length + (ct_bo t).length) → cl_sg S3 nx e a fa (ct_map (ct_fr 0 B) t) (List.range' lo (ct_sz t)) c fc → cl_fg (ct_fx t) (S.1 83 9) (S3.1 83 9) → cf_W (cW_rd nx (lo + ct_sz t - nx)) S S3 → Q S3 0) :
    cm_At (am_XX L xs) D 196 0 [some (.ref 83), some (.int i), none] [] S (fun r S2 k2 => cm_r1 (fun x => am_in (Int32.ofNat nx) 8192 ∧ ∀ S3, S3 = cm_wI S2 95 nx x → Q S3 k2) (E S2 k2) r) := by
  refine ih wt D S lo P R _ hD hB hcap hs (fun S2 q t2 s2 f2 c2 => cp_r1 ⟨cp_in hn (by decide), ?_⟩)
  rintro _ rfl
  have hl : ∀ x, x ∈ (List.range' lo (ct_sz t)) → ¬ x = nx := fun x hx => by
    have := List.mem_range'_1.mp hx
    omega
  have h2 := cl_sg_fr wa wb wc c2 (fun r q1 q2 => decide_eq_false (by omega)) (fun r x q1 q2 q3 => decide_eq_false (by have := hf x q3; omega)) hg
  refine k _ (cl_rs_w (by omega) (by omega) s2) (cl_sg_b wa wb wc (ct_map_wf t wt) (fun x hx => by have := hf x hx; omega) hl h2 t2) ?_ (cf_tr (cW_rd_mono (by omega) (by omega) c2) (cf_wI (decide_eq_true (by omega))))
  rw [cp_wI1, if_neg (by omega)]
  exact f2
theorem cl_sg_c {S : cm_S} {nx : Nat} {e : ct_D} {a b c t : ct_T} {fa fb fc l : List Nat} {q : Int32} (wa : ct_wf a) (wb : ct_wf b) (wc : ct_wf c) (wt : ct_wf t) (hf : ∀ x, x ∈ fa ∨ x ∈ fb ∨ x ∈ fc → ¬ x = nx) (hl : ∀ x, x ∈ l → ¬ x = nx) (h : cl_sg S nx e a fa b fb c fc) (ht : cl_t S t q l) : cl_sg (cm_wI S 96 nx q) nx e a fa b fb t l := by
  obtain ⟨g1, g2, g3, g4⟩ := h
  have hc : cf_W (fun b j => decide (b = 96 ∧ j = nx)) S (cm_wI S 96 nx q) := cf_wI (decide_eq_true ⟨rfl, rfl⟩)
  have hn : ∀ (r x : Nat), ¬ x = nx → (decide (r = 96 ∧ x = nx)) = false := fun r x h => decide_eq_false (fun hc => h hc.2)
  have hr : ∀ r : Nat, ¬ r = 96 → (decide (r = 96 ∧ nx = nx)) = false := fun r h => decide_eq_false (fun hc => h hc.1)
  refine ⟨?_, ?_, ?_, ?_⟩
  · rw [(hc 92 nx (hr _ (by omega))).1, (hc 93 nx (hr _ (by omega))).2, (hc 97 nx (hr _ (by omega))).1, (hc 98 nx (hr _ (by omega))).1]; exact g1
  · rw [(hc 94 nx (hr _ (by omega))).1]; exact cl_t_cf hc a wa _ _ (fun r x _ _ q3 => hn r x (hf x (Or.inl q3))) g2
  · rw [(hc 95 nx (hr _ (by omega))).1]; exact cl_t_cf hc b wb _ _ (fun r x _ _ q3 => hn r x (hf x (Or.inr (Or.inl q3)))) g3
  · rw [cp_wI1, if_pos ⟨rfl, rfl⟩]; exact cl_t_cf hc t wt _ _ (fun r x _ _ q3 => hn r x (hl x q3)) ht
theorem cp_rc {σ : Int32 → Int32} {i : Int32} {t a b c : ct_T} {fa fb fc : List Nat} {D nx lo : Nat} {S : cm_S} {e : ct_D} {P R : List Int32} {Q : cm_S → Nat → Prop} {E : cm_S → Nat → Nat → Prop} (ih : cl_rd L xs N B i σ t) (wt : ct_wf t) (wa : ct_wf a) (wb : ct_wf b) (wc : ct_wf c) (hD : 2 * ct_sz t + 3 ≤ D) (hB : B = P ++ (ct_bo t ++ R)) (hcap : lo + ct_sz t ≤ 8192) (hs : cl_rs N B S σ lo P.length) (hg : cl_sg S nx e a fa b fb c fc) (hlo : nx < lo) (hf : ∀ x, x ∈ fa ∨ x ∈ fb ∨ x ∈ fc → nx < x ∧ x < lo) (hn : nx < 8192)
    (k : ∀ S3, cl_rs N B S3 σ (lo + ct_sz t) (P.length + (ct_bo t).length) → cl_sg S3 nx e a fa b fb (ct_map (ct_fr 0 B) t) (List.range' lo (ct_sz t)) → cl_fg (ct_fx t) (S.1 83 9) (S3.1 83 9) → cf_W (cW_rd nx (lo + ct_sz t - nx)) S S3 → Q S3 0) :
    cm_At (am_XX L xs) D 196 0 [some (.ref 83), some (.int i), none] [] S (fun r S2 k2 => cm_r1 (fun x => am_in (Int32.ofNat nx) 8192 ∧ ∀ S3, S3 = cm_wI S2 96 nx x → Q S3 k2) (E S2 k2) r) := by
  refine ih wt D S lo P R _ hD hB hcap hs (fun S2 q t2 s2 f2 c2 => cp_r1 ⟨cp_in hn (by decide), ?_⟩)
  rintro _ rfl
  have hl : ∀ x, x ∈ (List.range' lo (ct_sz t)) → ¬ x = nx := fun x hx => by
    have := List.mem_range'_1.mp hx
    omega
  have h2 := cl_sg_fr wa wb wc c2 (fun r q1 q2 => decide_eq_false (by omega)) (fun r x q1 q2 q3 => decide_eq_false (by have := hf x q3; omega)) hg
  refine k _ (cl_rs_w (by omega) (by omega) s2) (cl_sg_c wa wb wc (ct_map_wf t wt) (fun x hx => by have := hf x hx; omega) hl h2 t2) ?_ (cf_tr (cW_rd_mono (by omega) (by omega) c2) (cf_wI (decide_eq_true (by omega))))
  rw [cp_wI1, if_neg (by omega)]
  exact f2
end CP57
