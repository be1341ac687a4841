/-! ## a09 the model's pool during a pass -/
def ct_ht : ct_T → Nat
  | .inner _ _ _ a (.inner _ _ _ b c) => 1 + max (ct_ht a) (max (ct_ht b) (ct_ht c))
  | _ => 0
theorem ct_ht_nd {e : ct_D} {a b c : ct_T} : ct_ht (ct_nd e a b c) = 1 + max (ct_ht a) (max (ct_ht b) (ct_ht c)) := rfl
theorem ct_ht_le : ∀ t, ct_wf t → ct_ht t ≤ ct_sz t :=
  ct_ind (Nat.le_refl _) (fun e a b c hw iha ihb ihc => by
    rw [ct_ht_nd, ct_sz_nd]
    omega)
theorem ct_tk_ct : ∀ {n : Nat} {sp : List Nat} {nx : Nat} (x : Nat), (ct_tk n sp nx).1.count x + (ct_tk n sp nx).2.1.count x = sp.count x + (if nx ≤ x ∧ x < (ct_tk n sp nx).2.2 then 1 else 0)
  | 0, sp, nx, x => by
    show ([] : List Nat).count x + sp.count x = sp.count x + (if nx ≤ x ∧ x < nx then 1 else 0)
    rw [if_neg (by omega), List.count_nil, Nat.zero_add, Nat.add_zero]
  | n + 1, y :: sp, nx, x => by
    have h := ct_tk_ct (n := n) (sp := sp) (nx := nx) x
    show (y :: (ct_tk n sp nx).1).count x + (ct_tk n sp nx).2.1.count x = (y :: sp).count x + (if nx ≤ x ∧ x < (ct_tk n sp nx).2.2 then 1 else 0)
    rw [List.count_cons, List.count_cons, Nat.add_right_comm, h]
    exact Nat.add_right_comm _ _ _
  | n + 1, [], nx, x => by
    have h := ct_tk_ct (n := n) (sp := []) (nx := nx + 1) x
    have h2 := (ct_tk_sp (n := n) (sp := []) (nx := nx + 1)).2.1
    show (nx :: (ct_tk n [] (nx + 1)).1).count x + (ct_tk n [] (nx + 1)).2.1.count x = ([] : List Nat).count x + (if nx ≤ x ∧ x < (ct_tk n [] (nx + 1)).2.2 then 1 else 0)
    rw [List.count_cons, Nat.add_right_comm, h, List.count_nil]
    by_cases hx : nx = x
    · rw [if_neg (by omega), if_pos (by rw [hx]; exact beq_self_eq_true x), if_pos (by omega)]
    · rw [if_neg (fun hc => hx (eq_of_beq hc))]
      by_cases h3 : nx + 1 ≤ x ∧ x < (ct_tk n [] (nx + 1)).2.2
      · rw [if_pos h3, if_pos (by omega)]
      · rw [if_neg h3, if_neg (by omega)]
def cl_in (nx x : Nat) : Nat := if 4800 ≤ x ∧ x < nx then 1 else 0
theorem cl_in_le {nx x : Nat} : cl_in nx x ≤ 1 := by unfold cl_in; split <;> omega
theorem cl_in_p {nx x : Nat} (h : 0 < cl_in nx x) : 4800 ≤ x ∧ x < nx := by
  unfold cl_in at h
  split at h
  · assumption
  · omega
/-- what is free and what is in use of the nodes from 4800 on -/
def cl_hp (S : cm_S) (sp : List Nat) (nx : Nat) (al : List Nat) : Prop := cl_al S sp nx ∧ 4800 ≤ nx ∧ nx ≤ 8192 ∧ ∀ x, sp.count x + al.count x = cl_in nx x
theorem cl_hp_len {S : cm_S} {sp al : List Nat} {nx : Nat} (h : cl_hp S sp nx al) : sp.length + al.length = nx - 4800 := by
  have hp : (sp ++ al).Perm (List.range' 4800 (nx - 4800)) := List.perm_iff_count.mpr (fun x => by
    rw [List.count_append, h.2.2.2 x]
    unfold cl_in
    by_cases hx : 4800 ≤ x ∧ x < nx
    · have h1 := h.2.1
      rw [if_pos hx]
      have h2 := List.nodup_iff_count.mp (List.nodup_range' (s := 4800) (n := nx - 4800)) x
      have h3 : 0 < (List.range' 4800 (nx - 4800)).count x := List.count_pos_iff.mpr (List.mem_range'_1.mpr (by omega))
      omega
    · rw [if_neg hx]
      exact (List.count_eq_zero.mpr (fun hc => hx (by have := List.mem_range'_1.mp hc; omega))).symm)
  have h2 := hp.length_eq
  rw [List.length_append, List.length_range'] at h2
  exact h2
theorem cl_hp_al {S : cm_S} {sp al : List Nat} {nx x : Nat} (h : cl_hp S sp nx al) (hx : x ∈ al) : 4800 ≤ x ∧ x < nx ∧ ¬ x ∈ sp ∧ al.count x = 1 := by
  have h1 := h.2.2.2 x
  have h2 : 0 < al.count x := List.count_pos_iff.mpr hx
  have h3 := cl_in_le (nx := nx) (x := x)
  have h4 := cl_in_p (nx := nx) (x := x) (by omega)
  exact ⟨h4.1, h4.2, fun hc => by have : 0 < sp.count x := List.count_pos_iff.mpr hc; omega, by omega⟩
theorem cl_hp_sp {S : cm_S} {sp al : List Nat} {nx x : Nat} (h : cl_hp S sp nx al) (hx : x ∈ sp) : 4800 ≤ x ∧ x < nx ∧ ¬ x ∈ al ∧ sp.count x = 1 := by
  have h1 := h.2.2.2 x
  have h2 : 0 < sp.count x := List.count_pos_iff.mpr hx
  have h3 := cl_in_le (nx := nx) (x := x)
  have h4 := cl_in_p (nx := nx) (x := x) (by omega)
  exact ⟨h4.1, h4.2, fun hc => by have : 0 < al.count x := List.count_pos_iff.mpr hc; omega, by omega⟩
theorem cl_hp_ok {S : cm_S} {sp al : List Nat} {nx : Nat} (h : cl_hp S sp nx al) : cl_ok sp nx := by
  have h1 := cl_hp_len h
  exact ⟨by have := h.2.2.1; omega, h.2.2.1, fun x hx => by have := (cl_hp_sp h hx).2.1; have := h.2.2.1; omega⟩
theorem cl_hp_pm {S : cm_S} {sp al al2 : List Nat} {nx : Nat} (h : cl_hp S sp nx al) (hp : ∀ x, al.count x = al2.count x) : cl_hp S sp nx al2 := ⟨h.1, h.2.1, h.2.2.1, fun x => by rw [← hp x]; exact h.2.2.2 x⟩
theorem cl_hp_cf {W : Nat → Nat → Bool} {S S2 : cm_S} {sp al : List Nat} {nx : Nat} (hc : cf_W W S S2) (h1 : ∀ j, W 99 j = false) (h2 : W 83 17 = false) (h3 : W 83 19 = false) (h : cl_hp S sp nx al) : cl_hp S2 sp nx al := ⟨cl_al_cf hc ⟨h1, h2, h3⟩ h.1, h.2⟩
theorem cl_hp_tk {S : cm_S} {sp al l sp2 : List Nat} {nx nx2 n : Nat} (h : cl_hp S sp nx al) (ht : ct_tk n sp nx = (l, sp2, nx2)) (hcap : n + al.length ≤ 3392) : 4800 ≤ nx2 ∧ nx2 ≤ 8192 ∧ (∀ x, sp2.count x + (l ++ al).count x = cl_in nx2 x) ∧ (∀ x, x ∈ l → ¬ x ∈ al ∧ 4800 ≤ x) ∧ l.Nodup ∧ l.length = n := by
  have h1 := cl_hp_len h
  have h2 := ct_tk_sp (n := n) (sp := sp) (nx := nx)
  have h3 := fun x => ct_tk_ct (n := n) (sp := sp) (nx := nx) x
  have h4 := ct_tk_nd (n := n) (sp := sp) (nx := nx) (List.nodup_iff_count.mpr (fun x => by have := h.2.2.2 x; have := cl_in_le (nx := nx) (x := x); omega)) (fun x hx => (cl_hp_sp h hx).2.1)
  rw [ht] at h2 h3 h4
  dsimp only at h2 h3 h4
  have h5 := h.2.1
  have h6 := h.2.2.1
  have h7 : nx ≤ nx2 ∧ nx2 ≤ 8192 := by omega
  have h8 : ∀ x, sp2.count x + (l ++ al).count x = cl_in nx2 x := fun x => by
    have h9 := h3 x
    have h10 := h.2.2.2 x
    rw [List.count_append]
    unfold cl_in at h10 ⊢
    by_cases hx : nx ≤ x ∧ x < nx2
    · rw [if_pos hx] at h9
      rw [if_neg (by omega)] at h10
      rw [if_pos (by omega)]
      omega
    · rw [if_neg hx] at h9
      by_cases hx2 : 4800 ≤ x ∧ x < nx
      · rw [if_pos hx2] at h10
        rw [if_pos (by omega)]
        omega
      · rw [if_neg hx2] at h10
        rw [if_neg (by omega)]
        omega
  refine ⟨by omega, h7.2, h8, fun x hx => ?_, h4, h2.2.2.2⟩
  have h9 := h8 x
  have h10 := cl_in_le (nx := nx2) (x := x)
  have h11 : 0 < l.count x := List.count_pos_iff.mpr hx
  rw [List.count_append] at h9
  exact ⟨fun hc => by have : 0 < al.count x := List.count_pos_iff.mpr hc; omega, (cl_in_p (nx := nx2) (x := x) (by omega)).1⟩
section CPa09
variable {L : Nat} {xs : Nat → Int32} {d : Nat}
/-- sizes again, with the depth of a tree for the depth of calls -/
theorem cp_204h {S : cm_S} : ∀ t, ct_wf t → ∀ (D : Nat) (p : Int32) (fp : List Nat) (K : cm_K), ct_ht t + 1 ≤ D → ct_sz t < 100000 → cl_t S t p fp → K (.inl (some (.int (Int32.ofNat (ct_sz t))))) S 0 → cm_At (am_XX L xs) D 204 0 [some (.ref 83), some (.int p)] [] S K :=
  ct_ind (fun D p fp K hD _ h k => by
    obtain ⟨rfl, _⟩ := h
    obtain ⟨d, rfl⟩ : ∃ d, D = d + 1 := ⟨D - 1, by omega⟩
    exact cx_204_0 _ ⟨fun _ => k, fun h => absurd rfl h⟩) (fun e a b c hw iha ihb ihc D p fp K hD hs h k => by
    obtain ⟨i, fa, fb, fc, rfl, h2, h3, h4, h5, h6, rfl⟩ := h
    rw [ct_sz_nd] at hs k
    rw [ct_ht_nd] at hD
    obtain ⟨d, rfl⟩ : ∃ d, D = d + 1 := ⟨D - 1, by omega⟩
    refine cx_204_0 _ ⟨fun h => absurd h (cp_m1 (by omega)), fun _ => ⟨cp_in h2 (by decide), ?_⟩⟩
    rw [cp_cl (by omega)]
    rintro _ rfl
    refine iha _ _ _ _ (by omega) (by omega) h4 (cp_r1 ?_)
    refine ⟨cp_in h2 (by decide), ?_⟩
    rintro _ rfl
    refine ihb _ _ _ _ (by omega) (by omega) h5 (cp_r1 ?_)
    refine ⟨cp_in h2 (by decide), ?_⟩
    rintro _ rfl
    refine ihc _ _ _ _ (by omega) (by omega) h6 (cp_r1 ?_)
    rw [show (1 : Int32) = Int32.ofNat 1 from rfl, cp_ad, cp_ad, cp_ad, show 1 + ct_sz a + ct_sz b + ct_sz c = 1 + (ct_sz a + (ct_sz b + ct_sz c)) by omega]
    exact k)
theorem cp_205D {S : cm_S} {K : cm_K} {t : ct_T} {p x : Int32} {fp : List Nat} {D : Nat} (hD : ct_sz t + 1 ≤ D) (hw : ct_wf t) (h : cl_t S t p fp) (k : K (.inl (some (.int (Int32.ofNat (ct_cn x (ct_fl t)))))) S 0) : cm_At (am_XX L xs) D 205 0 [some (.ref 83), some (.int p), some (.int x)] [] S K := by
  obtain ⟨d, rfl⟩ : ∃ d, D = d + ct_sz t + 1 := ⟨D - ct_sz t - 1, by omega⟩
  exact cp_205 t hw d p fp K h k
theorem cp_206D {S : cm_S} {K : cm_K} {t : ct_T} {p x : Int32} {fp : List Nat} {D : Nat} (hD : ct_sz t + 2 ≤ D) (hw : ct_wf t) (h : cl_t S t p fp) (k : K (.inl (some (.int (Int32.ofNat (ct_cw x t))))) S 0) : cm_At (am_XX L xs) D 206 0 [some (.ref 83), some (.int p), some (.int x)] [] S K := by
  obtain ⟨d, rfl⟩ : ∃ d, D = d + ct_sz t + 2 := ⟨D - ct_sz t - 2, by omega⟩
  exact cp_206 t hw d p fp K h k
theorem cp_207D {S : cm_S} {K : cm_K} {t : ct_T} {p : Int32} {fp : List Nat} {D : Nat} (hD : ct_sz t + 1 ≤ D) (hw : ct_wf t) (h : cl_t S t p fp) (k : K (.inl (some (.int (if ct_hg (ct_fl t) = true then 1 else 0)))) S 0) : cm_At (am_XX L xs) D 207 0 [some (.ref 83), some (.int p)] [] S K := by
  obtain ⟨d, rfl⟩ : ∃ d, D = d + ct_sz t + 1 := ⟨D - ct_sz t - 1, by omega⟩
  exact cp_207 t hw d p fp K h k
/-- a node taken -/
theorem cp_193h {S : cm_S} {K : cm_K} {p : Int32} {sp al : List Nat} {nx : Nat} (h : cl_hp S sp nx al) (hcap : 1 + al.length ≤ 3392)
    (k : ∀ S2 i sp2 nx2, ¬ i ∈ al → 4800 ≤ i → i < 8192 → cl_hp S2 sp2 nx2 (i :: al) → cf_W (cW_nd i) S S2 → S2.1 92 i = p ∧ S2.2 93 i = 0 ∧ S2.1 94 i = -1 ∧ S2.1 95 i = -1 ∧ S2.1 96 i = -1 ∧ S2.1 97 i = -1 ∧ S2.1 98 i = -1 → K (.inl (some (.int (Int32.ofNat i)))) S2 0) :
    cm_At (am_XX L xs) (d + 1) 193 0 [some (.ref 83), some (.int p), none] [] S K := by
  have hlen := cl_hp_len h
  refine cp_193 h.1 (cl_hp_ok h) (fun hsp => ?_) (fun S2 i hi hi2 hal c2 hf => ?_)
  · rw [hsp] at hlen
    have : ([] : List Nat).length = 0 := rfl
    have := h.2.1
    omega
  · have htk : ct_tk 1 sp nx = ([i], (ct_tk 1 sp nx).2.1, (ct_tk 1 sp nx).2.2) := by rw [← hi]
    obtain ⟨g1, g2, g3, g4, g5, g6⟩ := cl_hp_tk h htk hcap
    have g7 := g4 i List.mem_cons_self
    exact k S2 i _ _ g7.1 g7.2 hi2 ⟨hal, g1, g2, g3⟩ c2 hf
/-- a tree freed -/
theorem cp_194h {S : cm_S} {K : cm_K} {t : ct_T} {p : Int32} {fp sp rest : List Nat} {nx D : Nat} (hD : ct_sz t + 1 ≤ D) (hw : ct_wf t) (hcl : cl_t S t p fp) (h : cl_hp S sp nx (fp ++ rest))
    (k : ∀ S2 sp2, cl_hp S2 sp2 nx rest → cf_W cW_fr S S2 → K (.inl none) S2 0) :
    cm_At (am_XX L xs) D 194 0 [some (.ref 83), some (.int p)] [] S K := by
  obtain ⟨d, rfl⟩ : ∃ d, D = d + ct_sz t + 1 := ⟨D - ct_sz t - 1, by omega⟩
  have hlen := cl_hp_len h
  have h2 := h.2.2.1
  have h3 := (cl_t_len t hw _ _ hcl).1
  rw [List.length_append] at hlen
  refine cp_194 t hw d S p fp sp nx K hcl h.1 (by omega) (fun S2 l hl hal c2 => ?_)
  refine k S2 (l ++ sp) ⟨hal, h.2.1, h.2.2.1, fun x => ?_⟩ c2
  have h4 := h.2.2.2 x
  have h5 := List.perm_iff_count.mp hl x
  rw [List.count_append] at h4 ⊢
  omega
/-- a tree copied -/
theorem cp_202h {S : cm_S} {K : cm_K} {t : ct_T} {p : Int32} {fp sp al : List Nat} {nx n c D : Nat} (hD : ct_sz t + 4 ≤ D) (hg : ct_gd t) (hn : n + dt_nb t ≤ 32768) (hcl : cl_t S t p fp) (h : cl_hp S sp nx al) (hcap : ct_sz t + al.length ≤ 3392)
    (hdis : ∀ x, x ∈ fp → x ∈ al ∨ x < 4800) (hv : S.1 83 20 = Int32.ofNat n) (hcs : cl_cs S c) (hc : c < 2147483647)
    (k : ∀ S2 q l sp2 nx2, cl_t S2 (dt_cp n t) q l → cl_hp S2 sp2 nx2 (l ++ al) → (∀ x, x ∈ l → ¬ x ∈ al ∧ 4800 ≤ x) → S2.1 83 20 = Int32.ofNat (n + dt_nb t) → cl_cs S2 (c + 1) → cf_W (cW_cy l) S S2 → K (.inl (some (.int q))) S2 0) :
    cm_At (am_XX L xs) D 202 0 [some (.ref 83), some (.int p)] [] S K := by
  obtain ⟨d, rfl⟩ : ∃ d, D = d + ct_sz t + 4 := ⟨D - ct_sz t - 4, by omega⟩
  obtain ⟨l, sp2, nx2, htk⟩ : ∃ l sp2 nx2, ct_tk (ct_sz t) sp nx = (l, sp2, nx2) := ⟨_, _, _, rfl⟩
  obtain ⟨g1, g2, g3, g4, g5, g6⟩ := cl_hp_tk h htk hcap
  refine cp_202 hg hn hcl h.1 (cl_hp_ok h) htk g2 (fun x hx hx2 => ?_) g5 hv hcs hc (fun S2 q t2 a2 v2 s2 c2 => ?_)
  · have h1 := g4 x hx
    rcases hdis x hx2 with h2 | h2
    · exact h1.1 h2
    · omega
  · exact k S2 q l sp2 nx2 t2 ⟨a2, g1, g2, g3⟩ g4 v2 s2 c2
end CPa09
