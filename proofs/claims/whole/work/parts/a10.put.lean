/-! ## a10 the model's pool: rows of nodes, drops, put -/
/-- the row of a node -/
def cl_nn (S : cm_S) (i : Nat) (e : ct_D) (pa pb pc : Int32) : Prop := i < 8192 ∧ (S.1 92 i, S.2 93 i, S.1 97 i, S.1 98 i) = e ∧ S.1 94 i = pa ∧ S.1 95 i = pb ∧ S.1 96 i = pc
theorem cl_nn_t {S : cm_S} {i : Nat} {e : ct_D} {pa pb pc : Int32} {a b c : ct_T} {fa fb fc : List Nat} (h : cl_nn S i e pa pb pc) (ha : cl_t S a pa fa) (hb : cl_t S b pb fb) (hc : cl_t S c pc fc) : cl_t S (ct_nd e a b c) (Int32.ofNat i) (i :: (fa ++ (fb ++ fc))) :=
  ⟨i, fa, fb, fc, rfl, h.1, h.2.1, by rw [h.2.2.1]; exact ha, by rw [h.2.2.2.1]; exact hb, by rw [h.2.2.2.2]; exact hc, rfl⟩
theorem cl_t_nn {S : cm_S} {e : ct_D} {a b c : ct_T} {p : Int32} {fp : List Nat} (h : cl_t S (ct_nd e a b c) p fp) : ∃ (i : Nat) (fa fb fc : List Nat) (pa pb pc : Int32), p = Int32.ofNat i ∧ cl_nn S i e pa pb pc ∧ cl_t S a pa fa ∧ cl_t S b pb fb ∧ cl_t S c pc fc ∧ fp = i :: (fa ++ (fb ++ fc)) := by
  obtain ⟨i, fa, fb, fc, h1, h2, h3, h4, h5, h6, h7⟩ := h
  exact ⟨i, fa, fb, fc, _, _, _, h1, ⟨h2, h3, rfl, rfl, rfl⟩, h4, h5, h6, h7⟩
theorem cl_nn_cf {W : Nat → Nat → Bool} {S S2 : cm_S} {i : Nat} {e : ct_D} {pa pb pc : Int32} (hc : cf_W W S S2) (hd : ∀ b, 92 ≤ b → b ≤ 98 → W b i = false) (h : cl_nn S i e pa pb pc) : cl_nn S2 i e pa pb pc := by
  obtain ⟨h1, h2, h3, h4, h5⟩ := h
  refine ⟨h1, ?_, ?_, ?_, ?_⟩
  · rw [(hc _ _ (hd 92 (by omega) (by omega))).1, (hc _ _ (hd 93 (by omega) (by omega))).2, (hc _ _ (hd 97 (by omega) (by omega))).1, (hc _ _ (hd 98 (by omega) (by omega))).1]; exact h2
  · rw [(hc _ _ (hd 94 (by omega) (by omega))).1]; exact h3
  · rw [(hc _ _ (hd 95 (by omega) (by omega))).1]; exact h4
  · rw [(hc _ _ (hd 96 (by omega) (by omega))).1]; exact h5
theorem cl_nn_a {S : cm_S} {i : Nat} {e : ct_D} {pa pb pc q : Int32} (h : cl_nn S i e pa pb pc) : cl_nn (cm_wI S 94 i q) i e q pb pc := by
  obtain ⟨h1, h2, h3, h4, h5⟩ := h
  exact ⟨h1, by simp only [cp_wI1, cp_wI2]; rw [if_neg (by omega), if_neg (by omega), if_neg (by omega)]; exact h2, by rw [cp_wI1, if_pos ⟨rfl, rfl⟩], by rw [cp_wI1, if_neg (by omega)]; exact h4, by rw [cp_wI1, if_neg (by omega)]; exact h5⟩
theorem cl_nn_b {S : cm_S} {i : Nat} {e : ct_D} {pa pb pc q : Int32} (h : cl_nn S i e pa pb pc) : cl_nn (cm_wI S 95 i q) i e pa q pc := by
  obtain ⟨h1, h2, h3, h4, h5⟩ := h
  exact ⟨h1, by simp only [cp_wI1, cp_wI2]; rw [if_neg (by omega), if_neg (by omega), if_neg (by omega)]; exact h2, by rw [cp_wI1, if_neg (by omega)]; exact h3, by rw [cp_wI1, if_pos ⟨rfl, rfl⟩], by rw [cp_wI1, if_neg (by omega)]; exact h5⟩
theorem cl_nn_c {S : cm_S} {i : Nat} {e : ct_D} {pa pb pc q : Int32} (h : cl_nn S i e pa pb pc) : cl_nn (cm_wI S 96 i q) i e pa pb q := by
  obtain ⟨h1, h2, h3, h4, h5⟩ := h
  exact ⟨h1, by simp only [cp_wI1, cp_wI2]; rw [if_neg (by omega), if_neg (by omega), if_neg (by omega)]; exact h2, by rw [cp_wI1, if_neg (by omega)]; exact h3, by rw [cp_wI1, if_neg (by omega)]; exact h4, by rw [cp_wI1, if_pos ⟨rfl, rfl⟩]⟩
theorem cl_nn_k {S : cm_S} {i : Nat} {e : ct_D} {pa pb pc q : Int32} (h : cl_nn S i e pa pb pc) : cl_nn (cm_wI S 92 i q) i (q, e.2) pa pb pc := by
  obtain ⟨h1, h2, h3, h4, h5⟩ := h
  refine ⟨h1, ?_, by rw [cp_wI1, if_neg (by omega)]; exact h3, by rw [cp_wI1, if_neg (by omega)]; exact h4, by rw [cp_wI1, if_neg (by omega)]; exact h5⟩
  rw [← h2]
  simp [cp_wI1, cp_wI2]
theorem cl_nn_v {S : cm_S} {i : Nat} {e : ct_D} {pa pb pc q : Int32} (h : cl_nn S i e pa pb pc) : cl_nn (cm_wI S 97 i q) i (e.1, e.2.1, q, e.2.2.2) pa pb pc := by
  obtain ⟨h1, h2, h3, h4, h5⟩ := h
  refine ⟨h1, ?_, by rw [cp_wI1, if_neg (by omega)]; exact h3, by rw [cp_wI1, if_neg (by omega)]; exact h4, by rw [cp_wI1, if_neg (by omega)]; exact h5⟩
  rw [← h2]
  simp [cp_wI1, cp_wI2]
theorem cl_nn_w {S : cm_S} {i : Nat} {e : ct_D} {pa pb pc q : Int32} (h : cl_nn S i e pa pb pc) : cl_nn (cm_wI S 98 i q) i (e.1, e.2.1, e.2.2.1, q) pa pb pc := by
  obtain ⟨h1, h2, h3, h4, h5⟩ := h
  refine ⟨h1, ?_, by rw [cp_wI1, if_neg (by omega)]; exact h3, by rw [cp_wI1, if_neg (by omega)]; exact h4, by rw [cp_wI1, if_neg (by omega)]; exact h5⟩
  rw [← h2]
  simp [cp_wI1, cp_wI2]
theorem cl_nn_n {S : cm_S} {i : Nat} {e : ct_D} {pa pb pc : Int32} {q : Int64} (h : cl_nn S i e pa pb pc) : cl_nn (cm_wJ S 93 i q) i (e.1, q, e.2.2) pa pb pc := by
  obtain ⟨h1, h2, h3, h4, h5⟩ := h
  refine ⟨h1, ?_, h3, h4, h5⟩
  rw [← h2]
  show (S.1 92 i, (cm_wJ S 93 i q).2 93 i, S.1 97 i, S.1 98 i) = _
  rw [cp_wJ2, if_pos ⟨rfl, rfl⟩]
/-- what a step of a pass may write: nodes that are not of the rest -/
def cW_mp (rest : List Nat) (b j : Nat) : Bool := decide (92 ≤ b ∧ b ≤ 98 ∧ 4800 ≤ j ∧ ¬ j ∈ rest ∨ b = 99 ∨ b = 83 ∧ (j = 17 ∨ j = 19 ∨ j = 20 ∨ j = 23) ∨ b = 100 ∨ b = 101 ∨ b = 112)
theorem cW_mp_no {rest : List Nat} {b j : Nat} (h1 : 92 ≤ b) (h2 : b ≤ 98) (h : j ∈ rest ∨ j < 4800) : cW_mp rest b j = false := decide_eq_false (fun hc => by
  rcases hc with hc | hc
  · rcases h with h | h
    · exact hc.2.2.2 h
    · omega
  · omega)
theorem cW_mp_mo {rest rest2 : List Nat} {S S2 : cm_S} (hr : ∀ x, x ∈ rest → x ∈ rest2) (h : cf_W (cW_mp rest2) S S2) : cf_W (cW_mp rest) S S2 := cf_mono h (fun b j hw => by
  have hw := of_decide_eq_true hw
  rcases hw with hw | hw
  · exact decide_eq_true (Or.inl ⟨hw.1, hw.2.1, hw.2.2.1, fun hc => hw.2.2.2 (hr _ hc)⟩)
  · exact decide_eq_true (Or.inr hw))
theorem cl_t_mp {rest fp : List Nat} {S S2 : cm_S} {t : ct_T} {p : Int32} (hw : ct_wf t) (hc : cf_W (cW_mp rest) S S2) (hd : ∀ x, x ∈ fp → x ∈ rest ∨ x < 4800) (h : cl_t S t p fp) : cl_t S2 t p fp := cl_t_cf hc t hw p fp (fun b x q1 q2 hx => cW_mp_no q1 q2 (hd x hx)) h
theorem cl_nn_mp {rest : List Nat} {S S2 : cm_S} {i : Nat} {e : ct_D} {pa pb pc : Int32} (hc : cf_W (cW_mp rest) S S2) (hd : i ∈ rest) (h : cl_nn S i e pa pb pc) : cl_nn S2 i e pa pb pc := cl_nn_cf hc (fun b q1 q2 => cW_mp_no q1 q2 (Or.inl hd)) h
theorem cW_mp_fr {rest : List Nat} {S S2 : cm_S} (h : cf_W cW_fr S S2) : cf_W (cW_mp rest) S S2 := cf_mono h (fun b j hw => decide_eq_true (by have hw := of_decide_eq_true hw; omega))
theorem cW_mp_nd {rest : List Nat} {S S2 : cm_S} {i : Nat} (hi : 4800 ≤ i) (hr : ¬ i ∈ rest) (h : cf_W (cW_nd i) S S2) : cf_W (cW_mp rest) S S2 := cf_mono h (fun b j hw => by
  have hw := of_decide_eq_true hw
  rcases hw with hw | hw
  · exact decide_eq_true (Or.inl ⟨hw.1, hw.2.1, by omega, by rw [hw.2.2]; exact hr⟩)
  · exact decide_eq_true (by omega))
theorem cW_mp_cy {rest l : List Nat} {S S2 : cm_S} (hl : ∀ x, x ∈ l → ¬ x ∈ rest ∧ 4800 ≤ x) (h : cf_W (cW_cy l) S S2) : cf_W (cW_mp rest) S S2 := cf_mono h (fun b j hw => by
  have hw := of_decide_eq_true hw
  rcases hw with hw | hw
  · exact decide_eq_true (Or.inl ⟨hw.1, hw.2.1, (hl j hw.2.2).2, (hl j hw.2.2).1⟩)
  · exact decide_eq_true (by omega))
theorem cW_mp_wI {rest : List Nat} {S : cm_S} {i b : Nat} {q : Int32} (h1 : 92 ≤ b) (h2 : b ≤ 98) (hi : 4800 ≤ i) (hr : ¬ i ∈ rest) : cf_W (cW_mp rest) S (cm_wI S b i q) := cf_wI (decide_eq_true (Or.inl ⟨h1, h2, hi, hr⟩))
theorem cW_mp_wJ {rest : List Nat} {S : cm_S} {i b : Nat} {q : Int64} (h1 : 92 ≤ b) (h2 : b ≤ 98) (hi : 4800 ≤ i) (hr : ¬ i ∈ rest) : cf_W (cW_mp rest) S (cm_wJ S b i q) := cf_wJ (decide_eq_true (Or.inl ⟨h1, h2, hi, hr⟩))
/-- a write to one node -/
def cW_1 (i b j : Nat) : Bool := decide (92 ≤ b ∧ b ≤ 98 ∧ j = i)
theorem cl_t_1 {S S2 : cm_S} {t : ct_T} {p : Int32} {i : Nat} {fp : List Nat} (hw : ct_wf t) (hc : cf_W (cW_1 i) S S2) (hd : ¬ i ∈ fp) (h : cl_t S t p fp) : cl_t S2 t p fp := cl_t_cf hc t hw p fp (fun b x q1 q2 hx => decide_eq_false (fun hc => hd (by rw [← hc.2.2]; exact hx))) h
theorem cl_nn_1 {S S2 : cm_S} {i j : Nat} {e : ct_D} {pa pb pc : Int32} (hc : cf_W (cW_1 i) S S2) (hd : ¬ j = i) (h : cl_nn S j e pa pb pc) : cl_nn S2 j e pa pb pc := cl_nn_cf hc (fun b q1 q2 => decide_eq_false (fun hc => hd hc.2.2)) h
theorem cl_hp_1 {S S2 : cm_S} {i nx : Nat} {sp al : List Nat} (hc : cf_W (cW_1 i) S S2) (h : cl_hp S sp nx al) : cl_hp S2 sp nx al := cl_hp_cf hc (fun j => decide_eq_false (by omega)) (decide_eq_false (by omega)) (decide_eq_false (by omega)) h
theorem cW_1I {S : cm_S} {i b : Nat} {q : Int32} (h1 : 92 ≤ b) (h2 : b ≤ 98) : cf_W (cW_1 i) S (cm_wI S b i q) := cf_wI (decide_eq_true ⟨h1, h2, rfl⟩)
theorem cW_1J {S : cm_S} {i b : Nat} {q : Int64} (h1 : 92 ≤ b) (h2 : b ≤ 98) : cf_W (cW_1 i) S (cm_wJ S b i q) := cf_wJ (decide_eq_true ⟨h1, h2, rfl⟩)
theorem cW_1mp {S S2 : cm_S} {i : Nat} {rest : List Nat} (hi : 4800 ≤ i) (hr : ¬ i ∈ rest) (h : cf_W (cW_1 i) S S2) : cf_W (cW_mp rest) S S2 := cf_mono h (fun b j hw => by
  have hw := of_decide_eq_true hw
  exact decide_eq_true (Or.inl ⟨hw.1, hw.2.1, by omega, by rw [hw.2.2]; exact hr⟩))
/-- nodes in use stand once -/
theorem cl_hp_nd {S : cm_S} {sp al : List Nat} {nx : Nat} (h : cl_hp S sp nx al) : al.Nodup := List.nodup_iff_count.mpr (fun x => by
  have := h.2.2.2 x
  have := cl_in_le (nx := nx) (x := x)
  omega)
theorem cl_dj {S : cm_S} {sp fa fb fc rest : List Nat} {nx i : Nat} (h : cl_hp S sp nx ((i :: (fa ++ (fb ++ fc))) ++ rest)) : (¬ i ∈ fa ∧ ¬ i ∈ fb ∧ ¬ i ∈ fc ∧ ¬ i ∈ rest ∧ 4800 ≤ i) ∧ (∀ x, x ∈ fa → ¬ x ∈ fb ∧ ¬ x ∈ fc ∧ ¬ x ∈ rest ∧ 4800 ≤ x) ∧ (∀ x, x ∈ fb → ¬ x ∈ fc ∧ ¬ x ∈ rest ∧ 4800 ≤ x) ∧ (∀ x, x ∈ fc → ¬ x ∈ rest ∧ 4800 ≤ x) := by
  have hn := cl_hp_nd h
  have h4 : ∀ x, x ∈ (i :: (fa ++ (fb ++ fc))) ++ rest → 4800 ≤ x := fun x hx => (cl_hp_al h hx).1
  rw [List.cons_append, List.nodup_cons, List.append_assoc, List.append_assoc, List.nodup_append, List.nodup_append, List.nodup_append] at hn
  obtain ⟨h1, h2, ⟨h3, ⟨h5, h6, h7⟩, h8⟩, h9⟩ := hn
  simp only [List.mem_append, not_or] at h1
  refine ⟨⟨h1.1, h1.2.1, h1.2.2.1, h1.2.2.2, h4 i (by simp)⟩, fun x hx => ⟨fun hc => h9 x hx x (by simp [hc]) rfl, fun hc => h9 x hx x (by simp [hc]) rfl, fun hc => h9 x hx x (by simp [hc]) rfl, h4 x (by simp [hx])⟩, fun x hx => ⟨fun hc => h8 x hx x (by simp [hc]) rfl, fun hc => h8 x hx x (by simp [hc]) rfl, h4 x (by simp [hx])⟩, fun x hx => ⟨fun hc => h7 x hx x hc rfl, h4 x (by simp [hx])⟩⟩
theorem cl_hp_to {S : cm_S} {sp al : List Nat} {nx : Nat} (al2 : List Nat) (h : cl_hp S sp nx al) (hp : ∀ x, al.count x = al2.count x) : cl_hp S sp nx al2 := cl_hp_pm h hp
def cW_dp (i b j : Nat) : Bool := decide (94 ≤ b ∧ b ≤ 96 ∧ j = i ∨ b = 99 ∨ b = 83 ∧ j = 19)
theorem cW_mp_dp {rest : List Nat} {S S2 : cm_S} {i : Nat} (hi : 4800 ≤ i) (hr : ¬ i ∈ rest) (h : cf_W (cW_dp i) S S2) : cf_W (cW_mp rest) S S2 := cf_mono h (fun b j hw => by
  have hw := of_decide_eq_true hw
  rcases hw with hw | hw
  · exact decide_eq_true (Or.inl ⟨by omega, by omega, by omega, by rw [hw.2.2]; exact hr⟩)
  · exact decide_eq_true (by omega))
/-- a tree that a pass goes through can be copied -/
theorem dt_gd {n : Nat} {G : ct_G} {t : ct_T} (hw : dt_w t) (hbd : dt_bd n t) (hgc : dt_gc n G t) (hl : ct_lx G t) (hn : n ≤ 32768) : ct_gd t :=
  ⟨hw.1, dt_nb_ok t hw.1 G hw hl (fun x hx => by have := hgc x hx; omega) (fun z hz => by have := hbd.2 z hz; omega), hw.2.1, dt_nodup.mpr hbd.1, ct_lx_pb hw.1 hl (fun x hx hc => by have h1 := (hgc x hx).1; have h2 := dt_ct_in.mp hc; omega)⟩
theorem ct_wf_re {e : ct_D} {a b c a2 b2 c2 : ct_T} (h : ct_wf (ct_nd e a b c)) (ha : ct_wf a2) (hb : ct_wf b2) (hc : ct_wf c2) (la : a2 = .leaf ↔ a = .leaf) (lb : b2 = .leaf ↔ b = .leaf) (lc : c2 = .leaf ↔ c = .leaf) : ct_wf (ct_nd e a2 b2 c2) := by
  obtain ⟨w1, w2, w3, w4, w5, w6, w7⟩ := ct_wf_nd h
  exact ⟨rfl, rfl, rfl, w1, la.trans w2, lb.trans w3, lc.trans w4, ha, hb, hc⟩
theorem dt_put_wf {v : ct_T} {x : Int32} (hv : ct_wf v) (lv : ¬ v = .leaf) : ∀ t, ct_wf t → ∀ n, ct_wf (dt_put v x t n).1 ∧ ((dt_put v x t n).1 = .leaf ↔ t = .leaf) :=
  ct_ind (fun n => by rw [dt_put_lf]; exact ⟨trivial, Iff.rfl⟩) (fun e a b c hw iha ihb ihc n => by
    rw [dt_put_nd]
    by_cases h2 : e.1 = 2
    · rw [if_pos h2]
      by_cases hx : e.2.2.1 = x
      · rw [if_pos hx]
        exact ⟨ct_map_wf v hv, ⟨fun h => absurd ((ct_map_lf hv).mp h) lv, fun h => absurd h dt_ndl⟩⟩
      · rw [if_neg hx]
        exact ⟨hw, Iff.rfl⟩
    · rw [if_neg h2]
      exact ⟨ct_wf_re hw (iha n).1 (ihb _).1 (ihc _).1 (iha n).2 (ihb _).2 (ihc _).2, ⟨fun h => absurd h dt_ndl, fun h => absurd h dt_ndl⟩⟩)
section CPa10
variable {L : Nat} {xs : Nat → Int32} {d : Nat}
/-- one node is freed -/
theorem cp_215 {S : cm_S} {K : cm_K} {i nx : Nat} {sp rest : List Nat} (h : cl_hp S sp nx (i :: rest)) (k : ∀ S2 sp2, cl_hp S2 sp2 nx rest → cf_W (cW_dp i) S S2 → K (.inl none) S2 0) :
    cm_At (am_XX L xs) (d + 3) 215 0 [some (.ref 83), some (.int (Int32.ofNat i))] [] S K := by
  have hi := cl_hp_al h List.mem_cons_self
  have hnx := h.2.2.1
  have hlen := cl_hp_len h
  rw [List.length_cons] at hlen
  have hi8 : i < 8192 := by omega
  have e194 : ∀ {S : cm_S} {K : cm_K}, K (.inl none) S 0 → cm_At (am_XX L xs) (d + 1) 194 0 [some (.ref 83), some (.int (-1))] [] S K := fun {S K} hk => cx_194_0 _ ⟨fun _ => hk, fun h => absurd rfl h⟩
  refine cx_215_0 _ ⟨cp_in hi8 (by decide), ?_⟩
  rw [cp_cl (by omega)]
  rintro _ rfl
  refine ⟨cp_in hi8 (by decide), ?_⟩
  rintro _ rfl
  refine ⟨cp_in hi8 (by decide), ?_⟩
  rintro _ rfl
  have f3 : cf_W (cW_dp i) S (cm_wI (cm_wI (cm_wI S 94 i (-1)) 95 i (-1)) 96 i (-1)) := cf_tr (cf_wI (decide_eq_true (by omega))) (cf_tr (cf_wI (decide_eq_true (by omega))) (cf_wI (decide_eq_true (by omega))))
  have a3 : cl_al (cm_wI (cm_wI (cm_wI S 94 i (-1)) 95 i (-1)) 96 i (-1)) sp nx := cl_al_cf (W := cW_1 i) (cf_tr (cW_1I (by omega) (by omega)) (cf_tr (cW_1I (by omega) (by omega)) (cW_1I (by omega) (by omega)))) ⟨fun j => decide_eq_false (by omega), decide_eq_false (by omega), decide_eq_false (by omega)⟩ h.1
  have v3 : (cm_wI (cm_wI (cm_wI S 94 i (-1)) 95 i (-1)) 96 i (-1)).1 94 i = -1 ∧ (cm_wI (cm_wI (cm_wI S 94 i (-1)) 95 i (-1)) 96 i (-1)).1 95 i = -1 ∧ (cm_wI (cm_wI (cm_wI S 94 i (-1)) 95 i (-1)) 96 i (-1)).1 96 i = -1 := by
    simp [cp_wI1]
  generalize cm_wI (cm_wI (cm_wI S 94 i (-1)) 95 i (-1)) 96 i (-1) = S3 at f3 a3 v3 ⊢
  refine cx_194_0 _ ⟨fun h => absurd h (cp_m1 (by omega)), fun _ => ⟨cp_in hi8 (by decide), ?_⟩⟩
  rw [cp_cl (by omega)]
  rintro _ rfl
  rw [v3.1]
  refine e194 (cp_r0 ⟨cp_in hi8 (by decide), ?_⟩)
  rintro _ rfl
  rw [v3.2.1]
  refine e194 (cp_r0 ⟨cp_in hi8 (by decide), ?_⟩)
  rintro _ rfl
  rw [v3.2.2]
  refine e194 (cp_r0 ?_)
  rintro _ rfl
  rw [a3.1]
  refine ⟨cp_in (by omega) (by decide), ?_⟩
  rw [cp_cl (by omega)]
  rintro _ rfl
  rintro _ rfl
  rw [cp_wI1, if_neg (by omega), a3.1, show Int32.ofNat sp.length + 1 = Int32.ofNat (sp.length + 1) from cp_ad (b := 1)]
  rintro _ rfl
  refine k _ (i :: sp) ⟨cl_push a3 (by omega), h.2.1, h.2.2.1, fun x => ?_⟩ (cf_tr f3 (cf_tr (cf_wI (decide_eq_true (by omega))) (cf_wI (decide_eq_true (by omega)))))
  have h4 := h.2.2.2 x
  rw [List.count_cons] at h4 ⊢
  omega
/-- copies of v wherever x stands -/
theorem cp_209 {v : ct_T} {x pv : Int32} {fv : List Nat} (hv : ct_gd v) (lv : ¬ v = .leaf) : ∀ t, ct_wf t → ∀ (D n c : Nat) (S : cm_S) (p : Int32) (fp sp rest : List Nat) (nx : Nat) (K : cm_K), ct_ht t + ct_sz v + 7 ≤ D → cl_t S t p fp → cl_hp S sp nx (fp ++ rest) → cl_t S v pv fv → (∀ y, y ∈ fv → y ∈ rest) → ct_sz (dt_put v x t n).1 + rest.length ≤ 3392 → (dt_put v x t n).2 ≤ 32768 → S.1 83 20 = Int32.ofNat n → cl_cs S c → c + ct_cn x (ct_fl t) < 2147483647 →
    (∀ S2 q fp2 sp2 nx2, cl_t S2 (dt_put v x t n).1 q fp2 → cl_hp S2 sp2 nx2 (fp2 ++ rest) → S2.1 83 20 = Int32.ofNat (dt_put v x t n).2 → cl_cs S2 (c + ct_cn x (ct_fl t)) → cf_W (cW_mp rest) S S2 → K (.inl (some (.int q))) S2 0) →
    cm_At (am_XX L xs) D 209 0 [some (.ref 83), some (.int p), some (.int x), some (.int pv)] [] S K :=
  ct_ind (fun D n c S p fp sp rest nx K hD hcl hhp hcv hfv hcap hm h20 hcs hc k => by
    obtain ⟨rfl, rfl⟩ := hcl
    obtain ⟨D, rfl⟩ : ∃ d, D = d + 1 := ⟨D - 1, by omega⟩
    exact cx_209_0 _ _ _ ⟨fun _ => k S (-1) [] sp nx ⟨rfl, rfl⟩ hhp h20 hcs cf_rfl, fun h => absurd rfl h⟩) (fun e a b c hwf iha ihb ihc D n cc S p fp sp rest nx K hD hcl hhp hcv hfv hcap hm h20 hcs hc k => by
    obtain ⟨w1, w2, w3, w4, wa, wb, wc⟩ := ct_wf_nd hwf
    have hsv := ct_sz_ne hv.1 lv
    obtain ⟨i, fa, fb, fc, pa, pb, pc, rfl, hnn, ta, tb, tc, rfl⟩ := cl_t_nn hcl
    obtain ⟨D, rfl⟩ : ∃ d, D = d + 1 := ⟨D - 1, by omega⟩
    have hi8 := hnn.1
    have hk : S.1 92 i = e.1 := by rw [← hnn.2.1]
    have hvv : S.1 97 i = e.2.2.1 := by rw [← hnn.2.1]
    have hdj := cl_dj hhp
    rw [ct_ht_nd] at hD
    refine cx_209_0 _ _ _ ⟨fun h => absurd h (cp_m1 (by omega)), fun _ => ⟨cp_in hi8 (by decide), ?_⟩⟩
    rw [cp_cl (by omega)]
    rintro _ rfl
    rw [hk]
    refine ⟨fun h2 => ⟨cp_in hi8 (by decide), ?_⟩, fun h2 => ⟨cp_in hi8 (by decide), ?_⟩⟩
    · rintro _ rfl
      rw [hvv]
      rw [dt_put_nd, if_pos h2] at hcap hm k
      rw [ct_cn_nd] at hc k
      refine ⟨fun hx => ?_, fun hx => ?_⟩
      · rw [if_pos hx] at hcap hm k
        rw [if_pos ⟨h2, hx⟩] at hc k
        obtain ⟨rfl, rfl, rfl⟩ := ct_leafs hwf h2
        have hcn0 : ct_cn x (ct_fl (.leaf : ct_T)) = 0 := rfl
        rw [hcn0] at hc k
        obtain ⟨d, rfl⟩ : ∃ d, D = d + 1 := ⟨D - 1, by omega⟩
        refine cx_208_0 _ _ ?_
        refine cp_194h (t := ct_nd e .leaf .leaf .leaf) (by rw [ct_sz_nd]; show 1 + (0 + (0 + 0)) + 1 ≤ d; omega) hwf hcl hhp (fun S1 sp1 hhp1 f1 => cp_r0 ?_)
        have f1m : cf_W (cW_mp rest) S S1 := cW_mp_fr f1
        have hszm : ct_sz (dt_cp n v) = ct_sz v := ct_map_sz _
        refine cp_202h (by omega) hv hm (cl_t_mp hv.1 f1m (fun y hy => Or.inl (hfv y hy)) hcv) hhp1 (by rw [hszm] at hcap; exact hcap) (fun y hy => Or.inl (hfv y hy)) (by rw [(f1 83 20 (decide_eq_false (by omega))).1]; exact h20) (cl_cs_f f1 (decide_eq_false (by omega)) (fun j => decide_eq_false (by omega)) hcs) (by omega) (fun S2 q l sp2 nx2 t2 hhp2 hl2 h202 hcs2 f2 => cp_r1 ?_)
        exact k S2 q l sp2 nx2 t2 hhp2 h202 hcs2 (cf_tr f1m (cW_mp_cy hl2 f2))
      · rw [if_neg hx] at hcap hm k
        rw [if_neg (fun hc => hx hc.2)] at hc k
        obtain ⟨rfl, rfl, rfl⟩ := ct_leafs hwf h2
        exact k S (Int32.ofNat i) _ sp nx hcl hhp h20 hcs cf_rfl
    · rw [dt_put_nd, if_neg h2] at hcap hm k
      rw [ct_cn_nd, if_neg (fun hc => h2 hc.1), Nat.zero_add] at hc k
      dsimp only at hcap hm k
      rw [ct_sz_nd] at hcap
      have sa := dt_put_sn (v := v) (x := x) a wa n
      have sb := dt_put_sn (v := v) (x := x) b wb (dt_put v x a n).2
      have sc := dt_put_sn (v := v) (x := x) c wc (dt_put v x b (dt_put v x a n).2).2
      have ge : ∀ (t : ct_T) (N : Nat), ct_wf t → ct_sz t ≤ ct_sz (dt_put v x t N).1 := fun t N wt => by
        have h1 := (dt_put_sn (v := v) (x := x) t wt N).1
        have h3 : ct_cn x (ct_fl t) * 1 ≤ ct_cn x (ct_fl t) * ct_sz v := Nat.mul_le_mul_left _ hsv
        omega
      have ga := ge a n wa
      have gb := ge b (dt_put v x a n).2 wb
      have gc := ge c (dt_put v x b (dt_put v x a n).2).2 wc
      have la := (cl_t_len a wa _ _ ta).1
      have lb := (cl_t_len b wb _ _ tb).1
      have lc := (cl_t_len c wc _ _ tc).1
      -- the first part
      rintro _ rfl
      rw [hnn.2.2.1]
      refine iha D n cc S pa fa sp (i :: (fb ++ (fc ++ rest))) nx _ (by omega) ta (cl_hp_to _ hhp (fun y => by simp only [List.count_append, List.count_cons]; omega)) hcv (fun y hy => by simp [hfv y hy]) (by simp only [List.length_cons, List.length_append]; omega) (by omega) h20 hcs (by omega) (fun S1 qa fa2 sp1 nx1 ta1 hhp1 h201 hcs1 f1 => cp_r1 ⟨cp_in hi8 (by decide), ?_⟩)
      have nn1 := cl_nn_mp f1 (by simp) hnn
      have tb1 := cl_t_mp wb f1 (fun y hy => Or.inl (by simp [hy])) tb
      have tc1 := cl_t_mp wc f1 (fun y hy => Or.inl (by simp [hy])) tc
      have tv1 := cl_t_mp hv.1 f1 (fun y hy => Or.inl (by simp [hfv y hy])) hcv
      have la2 := (cl_t_len _ (by exact (dt_put_wf (v := v) (x := x) hv.1 lv a wa n).1) _ _ ta1).1
      have hia : ¬ i ∈ fa2 := fun hc => by
        have := cl_dj (cl_hp_to ((i :: (fa2 ++ (fb ++ fc))) ++ rest) hhp1 (fun y => by simp only [List.count_append, List.count_cons]; omega))
        exact this.1.1 hc
      have wf1 : cf_W (cW_1 i) S1 (cm_wI S1 94 i qa) := cW_1I (by omega) (by omega)
      rintro _ rfl
      have nn1' := cl_nn_a (q := qa) nn1
      have ta1' := cl_t_1 (dt_put_wf (v := v) (x := x) hv.1 lv a wa n).1 wf1 hia ta1
      have tb1' := cl_t_1 wb wf1 hdj.1.2.1 tb1
      have tc1' := cl_t_1 wc wf1 hdj.1.2.2.1 tc1
      have tv1' := cl_t_1 hv.1 wf1 (fun hc => hdj.1.2.2.2.1 (hfv i hc)) tv1
      have hp1' := cl_hp_1 wf1 hhp1
      have h201' : (cm_wI S1 94 i qa).1 83 20 = Int32.ofNat (dt_put v x a n).2 := by rw [(wf1 83 20 (decide_eq_false (by omega))).1]; exact h201
      have hcs1' := cl_cs_f wf1 (decide_eq_false (by omega)) (fun j => decide_eq_false (by omega)) hcs1
      have f1' : cf_W (cW_mp rest) S (cm_wI S1 94 i qa) := cf_tr (cW_mp_mo (fun y hy => by simp [hy]) f1) (cW_1mp hdj.1.2.2.2.2 hdj.1.2.2.2.1 wf1)
      generalize cm_wI S1 94 i qa = S1' at nn1' ta1' tb1' tc1' tv1' hp1' h201' hcs1' f1' ⊢
      -- the second
      refine ⟨cp_in hi8 (by decide), ?_⟩
      rintro _ rfl
      rw [nn1'.2.2.2.1]
      refine ihb D _ _ S1' pb fb sp1 (i :: (fa2 ++ (fc ++ rest))) nx1 _ (by omega) tb1' (cl_hp_to _ hp1' (fun y => by simp only [List.count_append, List.count_cons]; omega)) tv1' (fun y hy => by simp [hfv y hy]) (by simp only [List.length_cons, List.length_append]; omega) (by omega) h201' hcs1' (by omega) (fun S2 qb fb2 sp2 nx2 tb2 hhp2 h202 hcs2 f2 => cp_r1 ⟨cp_in hi8 (by decide), ?_⟩)
      have nn2 := cl_nn_mp f2 (by simp) nn1'
      have wa2 := (dt_put_wf (v := v) (x := x) hv.1 lv a wa n).1
      have wb2 := (dt_put_wf (v := v) (x := x) hv.1 lv b wb (dt_put v x a n).2).1
      have ta2 := cl_t_mp wa2 f2 (fun y hy => Or.inl (by simp [hy])) ta1'
      have tc2 := cl_t_mp wc f2 (fun y hy => Or.inl (by simp [hy])) tc1'
      have tv2 := cl_t_mp hv.1 f2 (fun y hy => Or.inl (by simp [hfv y hy])) tv1'
      have lb2 := (cl_t_len _ wb2 _ _ tb2).1
      have hib : ¬ i ∈ fb2 := fun hc => by
        have := cl_dj (cl_hp_to ((i :: (fa2 ++ (fb2 ++ fc))) ++ rest) hhp2 (fun y => by simp only [List.count_append, List.count_cons]; omega))
        exact this.1.2.1 hc
      have wf2 : cf_W (cW_1 i) S2 (cm_wI S2 95 i qb) := cW_1I (by omega) (by omega)
      rintro _ rfl
      have nn2' := cl_nn_b (q := qb) nn2
      have ta2' := cl_t_1 wa2 wf2 hia ta2
      have tb2' := cl_t_1 wb2 wf2 hib tb2
      have tc2' := cl_t_1 wc wf2 hdj.1.2.2.1 tc2
      have tv2' := cl_t_1 hv.1 wf2 (fun hc => hdj.1.2.2.2.1 (hfv i hc)) tv2
      have hp2' := cl_hp_1 wf2 hhp2
      have h202' : (cm_wI S2 95 i qb).1 83 20 = Int32.ofNat (dt_put v x b (dt_put v x a n).2).2 := by rw [(wf2 83 20 (decide_eq_false (by omega))).1]; exact h202
      have hcs2' := cl_cs_f wf2 (decide_eq_false (by omega)) (fun j => decide_eq_false (by omega)) hcs2
      have f2' : cf_W (cW_mp rest) S (cm_wI S2 95 i qb) := cf_tr f1' (cf_tr (cW_mp_mo (fun y hy => by simp [hy]) f2) (cW_1mp hdj.1.2.2.2.2 hdj.1.2.2.2.1 wf2))
      generalize cm_wI S2 95 i qb = S2' at nn2' ta2' tb2' tc2' tv2' hp2' h202' hcs2' f2' ⊢
      -- the third
      refine ⟨cp_in hi8 (by decide), ?_⟩
      rintro _ rfl
      rw [nn2'.2.2.2.2]
      refine ihc D _ _ S2' pc fc sp2 (i :: (fa2 ++ (fb2 ++ rest))) nx2 _ (by omega) tc2' (cl_hp_to _ hp2' (fun y => by simp only [List.count_append, List.count_cons]; omega)) tv2' (fun y hy => by simp [hfv y hy]) (by simp only [List.length_cons, List.length_append]; omega) hm h202' hcs2' (by omega) (fun S3 qc fc2 sp3 nx3 tc3 hhp3 h203 hcs3 f3 => cp_r1 ⟨cp_in hi8 (by decide), ?_⟩)
      have nn3 := cl_nn_mp f3 (by simp) nn2'
      have wc2 := (dt_put_wf (v := v) (x := x) hv.1 lv c wc (dt_put v x b (dt_put v x a n).2).2).1
      have ta3 := cl_t_mp wa2 f3 (fun y hy => Or.inl (by simp [hy])) ta2'
      have tb3 := cl_t_mp wb2 f3 (fun y hy => Or.inl (by simp [hy])) tb2'
      have hic : ¬ i ∈ fc2 := fun hc => by
        have := cl_dj (cl_hp_to ((i :: (fa2 ++ (fb2 ++ fc2))) ++ rest) hhp3 (fun y => by simp only [List.count_append, List.count_cons]; omega))
        exact this.1.2.2.1 hc
      have wf3 : cf_W (cW_1 i) S3 (cm_wI S3 96 i qc) := cW_1I (by omega) (by omega)
      rintro _ rfl
      refine k (cm_wI S3 96 i qc) (Int32.ofNat i) (i :: (fa2 ++ (fb2 ++ fc2))) sp3 nx3 (cl_nn_t (cl_nn_c (q := qc) nn3) (cl_t_1 wa2 wf3 hia ta3) (cl_t_1 wb2 wf3 hib tb3) (cl_t_1 wc2 wf3 hic tc3)) (cl_hp_1 wf3 (cl_hp_to _ hhp3 (fun y => by simp only [List.count_append, List.count_cons]; omega))) ?_ ?_ (cf_tr f2' (cf_tr (cW_mp_mo (fun y hy => by simp [hy]) f3) (cW_1mp hdj.1.2.2.2.2 hdj.1.2.2.2.1 wf3)))
      · rw [(wf3 83 20 (decide_eq_false (by omega))).1]; exact h203
      · rw [show cc + (ct_cn x (ct_fl a) + (ct_cn x (ct_fl b) + ct_cn x (ct_fl c))) = cc + ct_cn x (ct_fl a) + ct_cn x (ct_fl b) + ct_cn x (ct_fl c) by omega]
        exact cl_cs_f wf3 (decide_eq_false (by omega)) (fun j => decide_eq_false (by omega)) hcs3)
end CPa10
