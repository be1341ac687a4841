/-! ## a45 what can still be reached: one cell gone through, all of them -/
def dl_C (M : cm_S) (nc m : Nat) (l : List Int32) : Prop := ∀ (L : Nat) (xs : Nat → Int32) (d : Nat) (A : cm_S) (Ls : List Nat) (K : cm_K), dl_A A Ls → dl_ok nc Ls → cf_W dl_WA M A → (∀ A2, dl_A A2 (dl_ads Ls l) → cf_W dl_WA M A2 → K (.inl none) A2 0) → cm_At (am_XX L xs) (d + 6) 104 0 [some (.ref 80), some (.int (Int32.ofNat m))] [] A K
def dl_N (M : cm_S) (nc m : Nat) (l : List Int32) : Prop := ∀ (w : Int64) (L : Nat) (xs : Nat → Int32) (d : Nat) (S : cm_S) (Ls : List Nat) (K : cm_K), dl_S S nc w Ls → dl_ok nc Ls → cf_W dl_WS M S → (∀ S2, dl_S S2 nc w (dl_ads Ls l) → cf_W dl_WS M S2 → K (.inl none) S2 0) → (M.1 116 (dm_mc m) = -1 → cm_At (am_XX L xs) (d + 156) 272 0 [some (.ref 83), some (.int (M.1 114 (dm_mc m))), some (.int (M.1 115 (dm_mc m)))] [] S K) ∧ (¬ M.1 116 (dm_mc m) = -1 → cm_At (am_XX L xs) (d + 156) 273 0 [some (.ref 83), some (.int (M.1 116 (dm_mc m)))] [] S K)
section CPa45
variable {L : Nat} {xs : Nat → Int32} {d : Nat} {M A S : cm_S} {K : cm_K} {Ls : List Nat} {V : Nat → ct_T} {G : dm_Gs} {nc ne nv g m : Nat} {s : Int32}
theorem cp_105 (hM : dl_M M V G nc ne nv) (hs : dm_sc G ne g s) {q : Nat} {t t2 : ct_T} (hn : dm_n M M V g q t t2) (hA : dl_A A Ls) (hok : dl_ok nc Ls) (fA : cf_W dl_WA M A) (k : ∀ A2, dl_A A2 (dl_ads Ls (dl_ls M s (ct_fl t))) → cf_W dl_WA M A2 → K (.inl none) A2 0) : cm_At (am_XX L xs) (d + 5) 105 0 [some (.ref 80), some (.int (Int32.ofNat q)), some (.int s), none, none] [] A K := by
  have hck : ck_t A 58 q t := ck_t_cf fA (fun b j q1 q2 _ _ => decide_eq_false (by omega)) hn.2.2.2.2.2.2.1
  have h13 := cp_en_t (S := A) (a := 58) (by decide) hck hn.2.2.2.1.1 hn.2.2.2.2.2.1
  have hz := hn.2.2.1
  have hg := hn.1
  refine cx_105_0 _ _ ?_
  refine cp_13 (by decide) (cp_r1 ?_)
  rw [show Int32.ofNat q + cp_g (cm_cap 58) (A.1 (58 + 5)) 0 (Int32.ofNat q) = Int32.ofNat (q + ct_sz t) from h13, ← ct_fl_len]
  simp only [dk_sh0]
  exact cp_105l hM hs (ct_fl t) q A Ls K hn.2.2.2.2.2.2.1.1 (by rw [ct_fl_len]; omega) hn.2.2.2.1.2.2 hA hok fA k
theorem dl_cell (hM : dl_M M V G nc ne nv) (hm : m < nc) (hm8 : ¬ m = 8) : ∃ l : List Int32, (∀ c, c ∈ l → dl_v nc c) ∧ dl_C M nc m l ∧ dl_N M nc m l := by
  obtain ⟨m1, m2, m3, m4, m5⟩ := id hM
  have hcl := m1.2.2.2.2.2.2.2.2.2.2.1 m hm hm8
  -- a cell of which nothing is gone on from
  have none0 : ∀ st : Int32, M.1 65 m = st → ¬ st = -1 → ¬ st = 4 → ¬ st = 11 → dl_C M nc m [] := fun st h1 h2 h3 h4 L xs d A Ls K hA hok fA k => by
    refine cx_104_0 _ ?_
    refine cp_116 (nc := nc) ((fA 64 4 (decide_eq_false (by omega))).1.trans m1.2.2.1) m2 hm (cp_r1 ?_)
    rw [(fA 65 m (decide_eq_false (by omega))).1, h1]
    have e1 : ∀ y : Int32, st.toInt = y.toInt → st = y := fun y h => Int32.toInt_inj.mp h
    refine ⟨fun hx => absurd (e1 (-1) hx) h2, fun _ => ⟨fun hx => absurd (e1 4 hx) h3, fun _ => ⟨fun hx => absurd (e1 11 hx) h4, fun _ => ?_⟩⟩⟩
    exact k A hA fA
  -- a node and its scope
  have node : ∀ (st : Int32) (g q : Nat) (t t2 : ct_T), M.1 65 m = st → st = -1 ∨ st = 4 → M.1 66 m = Int32.ofNat q → dm_n M M V g q t t2 → dm_sc G ne g (M.1 67 m) → (∀ c, c ∈ dl_ls M (M.1 67 m) (ct_fl t) → dl_v nc c) ∧ dl_C M nc m (dl_ls M (M.1 67 m) (ct_fl t)) := fun st g q t t2 h1 h2 h3 h4 h5 => by
    refine ⟨dl_ls_v hM h5 (ct_fl t) h4.2.2.2.1.2.2, fun L xs d A Ls K hA hok fA k => ?_⟩
    refine cx_104_0 _ ?_
    refine cp_116 (nc := nc) ((fA 64 4 (decide_eq_false (by omega))).1.trans m1.2.2.1) m2 hm (cp_r1 ?_)
    rw [(fA 65 m (decide_eq_false (by omega))).1, h1]
    rcases h2 with rfl | rfl
    · refine ⟨fun _ => ?_, fun hx => absurd (by decide) hx⟩
      refine cp_117 (by omega) (cp_r1 ?_)
      refine cp_118 (by omega) (cp_r1 ?_)
      rw [(fA 66 m (decide_eq_false (by omega))).1, (fA 67 m (decide_eq_false (by omega))).1, h3]
      refine cp_105 hM h5 h4 hA hok fA (fun A2 a1 a2 => cp_r0 ?_)
      exact k A2 a1 a2
    · refine ⟨fun hx => absurd hx (by decide), fun _ => ⟨fun _ => ?_, fun hx => absurd (by decide) hx⟩⟩
      refine cp_117 (by omega) (cp_r1 ?_)
      refine cp_118 (by omega) (cp_r1 ?_)
      rw [(fA 66 m (decide_eq_false (by omega))).1, (fA 67 m (decide_eq_false (by omega))).1, h3]
      refine cp_105 hM h5 h4 hA hok fA (fun A2 a1 a2 => cp_r0 ?_)
      exact k A2 a1 a2
  rcases hcl with ⟨c1, c2, c3, c4, c5⟩ | ⟨c1, ⟨g, q, t, t2, c2, c3, c4, c5⟩, c6, c7, c8⟩ | ⟨c1, _⟩ | ⟨v, c1, c2, c3, c4⟩
  · refine ⟨[], fun c h => absurd h List.not_mem_nil, none0 0 c1 (by decide) (by decide) (by decide), fun w L xs d S Ls K hS hok fS k => ⟨fun _ => ?_, fun hx => absurd c4 hx⟩⟩
    rw [c3]
    exact cx_272_0 _ _ ⟨fun _ => k S hS fS, fun hx => absurd rfl hx⟩
  · obtain ⟨n1, n2⟩ := node (-1) g q t t2 c1 (Or.inl rfl) c2 c3 c5.1
    refine ⟨_, n1, n2, fun w L xs d S Ls K hS hok fS k => ⟨fun _ => ?_, fun hx => absurd c7 hx⟩⟩
    rw [c4, c6]
    exact cp_272t hM c5.1 t c3.2.2.2.1.1 q t2 (d + 156) S Ls K c3 (by have := c3.2.2.1; have := c3.2.1; omega) hS hok fS k
  · exact absurd c1 (m5 m hm hm8)
  · have hv1 : ¬ M.1 116 (dm_mc m) = -1 := by rw [c2]; exact cp_m1 (by omega)
    rcases c3 with ⟨d1, d2, d3⟩ | ⟨d1, d2, g, q, e, a, b, c, t2, d3, d4, d5, d6, d7, d8⟩ | ⟨d1, d2, d3⟩ | ⟨d1, d2, d3, d4, d5, d6, d7⟩
    · refine ⟨[], fun c h => absurd h List.not_mem_nil, none0 1 d1 (by decide) (by decide) (by decide), fun w L xs d S Ls K hS hok fS k => ⟨fun hx => absurd hx hv1, fun _ => ?_⟩⟩
      rw [c2]
      refine cx_273_0 _ ⟨cp_in (by omega) (by decide), ?_⟩
      rw [cp_cl (n := v) (by omega)]
      intro x1 h1
      rw [h1, (fS 121 v (decide_eq_false (by omega))).1, d2]
      refine ⟨fun hx => absurd hx (by decide), fun _ => ⟨cp_in (by omega) (by decide), ?_⟩⟩
      intro x2 h2
      rw [h2]
      exact ⟨fun hx => absurd hx (by decide), fun _ => k S hS fS⟩
    · obtain ⟨n1, n2⟩ := node 4 g q (ct_nd e a b c) t2 d1 (Or.inr rfl) d3 d4 d8.1
      refine ⟨_, n1, n2, fun w L xs d S Ls K hS hok fS k => ⟨fun hx => absurd hx hv1, fun _ => ?_⟩⟩
      rw [c2]
      refine cx_273_0 _ ⟨cp_in (by omega) (by decide), ?_⟩
      rw [cp_cl (n := v) (by omega)]
      intro x1 h1
      rw [h1, (fS 121 v (decide_eq_false (by omega))).1, d2]
      refine ⟨fun _ => ⟨cp_in (by omega) (by decide), ?_⟩, fun hx => absurd rfl hx⟩
      intro x12 h12
      rw [h12, (fS 123 v (decide_eq_false (by omega))).1, d6]
      refine ⟨cp_in (by omega) (by decide), ?_⟩
      intro x13 h13
      rw [h13, (fS 124 v (decide_eq_false (by omega))).1, d7]
      refine cp_272t hM d8.1 (ct_nd e a b c) d4.2.2.2.1.1 q t2 (d + 155) S Ls _ d4 (by have := d4.2.2.1; have := d4.2.1; omega) hS hok fS (fun S2 a1 a2 => cp_r0 ?_)
      exact k S2 a1 a2
    · refine ⟨[], fun c h => absurd h List.not_mem_nil, none0 10 d1 (by decide) (by decide) (by decide), fun w L xs d S Ls K hS hok fS k => ⟨fun hx => absurd hx hv1, fun _ => ?_⟩⟩
      rw [c2]
      refine cx_273_0 _ ⟨cp_in (by omega) (by decide), ?_⟩
      rw [cp_cl (n := v) (by omega)]
      intro x1 h1
      rw [h1, (fS 121 v (decide_eq_false (by omega))).1, d2]
      refine ⟨fun hx => absurd hx (by decide), fun _ => ⟨cp_in (by omega) (by decide), ?_⟩⟩
      intro x2 h2
      rw [h2]
      refine ⟨fun _ => ⟨cp_in (by omega) (by decide), ?_⟩, fun hx => absurd rfl hx⟩
      intro x3 h3
      rw [h3, (fS 122 v (decide_eq_false (by omega))).2, d3]
      exact ⟨fun _ => k S hS fS, fun hx => absurd (cu_lg.mpr rfl) hx⟩
    · have vv : ∀ c, dm_cr nc c → dl_v nc c := fun c hc => by
        obtain ⟨k, h1, h2, h3⟩ := hc
        exact Or.inr ⟨k, h1, by omega, h3⟩
      refine ⟨[M.1 66 m, M.1 67 m], fun c h => ?_, fun L xs d A Ls K hA hok fA k => ?_, fun w L xs d S Ls K hS hok fS k => ⟨fun hx => absurd hx hv1, fun _ => ?_⟩⟩
      · rcases List.mem_cons.mp h with h | h
        · rw [h]; exact vv _ d6
        · rw [List.mem_singleton] at h
          rw [h]; exact vv _ d7
      · refine cx_104_0 _ ?_
        refine cp_116 (nc := nc) ((fA 64 4 (decide_eq_false (by omega))).1.trans m1.2.2.1) m2 hm (cp_r1 ?_)
        rw [(fA 65 m (decide_eq_false (by omega))).1, d1]
        refine ⟨fun hx => absurd hx (by decide), fun _ => ⟨fun hx => absurd hx (by decide), fun _ => ⟨fun _ => ?_, fun hx => absurd (by decide) hx⟩⟩⟩
        refine cp_117 (by omega) (cp_r1 ?_)
        rw [(fA 66 m (decide_eq_false (by omega))).1]
        refine cp_103 hA hok m2 (vv _ d6) (fun A2 a1 a2 => cp_r0 ?_)
        have f2 := cf_tr fA a2
        refine cp_118 (by omega) (cp_r1 ?_)
        rw [(f2 67 m (decide_eq_false (by omega))).1]
        refine cp_103 a1 (dl_ad_ok hok m2 (vv _ d6)) m2 (vv _ d7) (fun A3 b1 b2 => cp_r0 ?_)
        exact k A3 b1 (cf_tr f2 b2)
      · rw [c2]
        refine cx_273_0 _ ⟨cp_in (by omega) (by decide), ?_⟩
        rw [cp_cl (n := v) (by omega)]
        intro x1 h1
        rw [h1, (fS 121 v (decide_eq_false (by omega))).1, d2]
        refine ⟨fun hx => absurd hx (by decide), fun _ => ⟨cp_in (by omega) (by decide), ?_⟩⟩
        intro x2 h2
        rw [h2]
        refine ⟨fun _ => ⟨cp_in (by omega) (by decide), ?_⟩, fun hx => absurd rfl hx⟩
        intro x3 h3
        rw [h3, (fS 122 v (decide_eq_false (by omega))).2, d3]
        refine ⟨fun hx => absurd (cu_lg.mp hx) (by decide), fun _ => ⟨cp_in (by omega) (by decide), ?_⟩⟩
        intro x4 h4
        rw [h4, (fS 123 v (decide_eq_false (by omega))).1, d4]
        refine cp_271 hS hok m2 (vv _ d6) (fun S2 a1 a2 => cp_r0 ?_)
        have f2 := cf_tr fS a2
        refine ⟨cp_in (by omega) (by decide), ?_⟩
        intro x8 h8
        rw [h8, (f2 124 v (decide_eq_false (by omega))).1, d5]
        refine cp_271 a1 (dl_ad_ok hok m2 (vv _ d6)) m2 (vv _ d7) (fun S3 b1 b2 => cp_r0 ?_)
        exact k S3 b1 (cf_tr f2 b2)
end CPa45
