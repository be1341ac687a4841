/-! ## a11 the model's steps: into LETs, applications -/
def cW_mn (b _ : Nat) : Bool := decide (b = 112)
/-- what is said of a step: nothing changed and no node, or a tree in place of the node -/
def dm_st (r : Option (ct_T × Nat)) (S : cm_S) (rest : List Nat) (c : Nat) (K : cm_K) : Prop := match r with
  | none => ∀ S2, cf_W cW_mn S S2 → K (.inl (some (.int (-1)))) S2 0
  | some r => ∀ S2 i fp2 sp2 nx2 c2, cl_t S2 r.1 (Int32.ofNat i) fp2 → i < 8192 → cl_hp S2 sp2 nx2 (fp2 ++ rest) → S2.1 83 20 = Int32.ofNat r.2 → cl_cs S2 c2 → c ≤ c2 → c2 ≤ c + 150 → cf_W (cW_mp rest) S S2 → K (.inl (some (.int (Int32.ofNat i)))) S2 0
def dm_c (r : Option (ct_T × Nat)) (rest : List Nat) : Prop := ∀ q, r = some q → q.2 ≤ 32768 ∧ ct_sz q.1 + 152 + rest.length ≤ 3392
def dm_p (S : cm_S) (i : Nat) (e : ct_D) (a b c : ct_T) (fa fb fc : List Nat) (pa pb pc : Int32) (sp : List Nat) (nx : Nat) (rest : List Nat) (n c0 : Nat) : Prop := cl_nn S i e pa pb pc ∧ cl_t S a pa fa ∧ cl_t S b pb fb ∧ cl_t S c pc fc ∧ cl_hp S sp nx ((i :: (fa ++ (fb ++ fc))) ++ rest) ∧ S.1 83 20 = Int32.ofNat n ∧ cl_cs S c0 ∧ dt_w (ct_nd e a b c) ∧ c0 < 2000000000
def dm_d (S : cm_S) (U : Nat → ct_T) : Prop := cl_d S 8 1200 U ∧ cl_i S U
theorem dm_nk {S : cm_S} {i : Nat} {e : ct_D} {pa pb pc : Int32} (h : cl_nn S i e pa pb pc) : S.1 92 i = e.1 ∧ S.2 93 i = e.2.1 ∧ S.1 97 i = e.2.2.1 ∧ S.1 98 i = e.2.2.2 := by
  rw [← h.2.1]
  exact ⟨rfl, rfl, rfl, rfl⟩
theorem cl_t_dp {S S2 : cm_S} {t : ct_T} {p : Int32} {i : Nat} {fp : List Nat} (hw : ct_wf t) (hc : cf_W (cW_dp i) S S2) (hd : ¬ i ∈ fp) (h : cl_t S t p fp) : cl_t S2 t p fp := cl_t_cf hc t hw p fp (fun b x q1 q2 hx => decide_eq_false (fun hc => by
  rcases hc with hc | hc
  · exact hd (by rw [← hc.2.2]; exact hx)
  · omega)) h
theorem cl_nn_dp {S S2 : cm_S} {i j : Nat} {e : ct_D} {pa pb pc : Int32} (hc : cf_W (cW_dp i) S S2) (hd : ¬ j = i) (h : cl_nn S j e pa pb pc) : cl_nn S2 j e pa pb pc := cl_nn_cf hc (fun b q1 q2 => decide_eq_false (fun hc => by
  rcases hc with hc | hc
  · exact hd hc.2.2
  · omega)) h
theorem cl_t_frr {S S2 : cm_S} {t : ct_T} {p : Int32} {fp : List Nat} (hw : ct_wf t) (hc : cf_W cW_fr S S2) (h : cl_t S t p fp) : cl_t S2 t p fp := cl_t_cf hc t hw p fp (fun b x q1 q2 hx => decide_eq_false (by omega)) h
theorem cl_nn_frr {S S2 : cm_S} {j : Nat} {e : ct_D} {pa pb pc : Int32} (hc : cf_W cW_fr S S2) (h : cl_nn S j e pa pb pc) : cl_nn S2 j e pa pb pc := cl_nn_cf hc (fun b q1 q2 => decide_eq_false (by omega)) h
theorem dm_20 {S S2 : cm_S} {n : Nat} {W : Nat → Nat → Bool} (hc : cf_W W S S2) (hW : W 83 20 = false) (h : S.1 83 20 = Int32.ofNat n) : S2.1 83 20 = Int32.ofNat n := by rw [(hc _ _ hW).1]; exact h
section CPa11
variable {L : Nat} {xs : Nat → Int32} {d : Nat} {S : cm_S} {K : cm_K} {i nx n c0 : Nat} {e : ct_D} {a b c : ct_T} {fa fb fc sp rest : List Nat} {pa pb pc : Int32}
theorem cp_213 (h : dm_p S i e a b c fa fb fc pa pb pc sp nx rest n c0) (la : ¬ a = .leaf) (k : dm_st (some (dt_lift e a b c, n)) S rest c0 K) :
    cm_At (am_XX L xs) (d + 1) 213 0 [some (.ref 83), some (.int (Int32.ofNat i)), none] [] S K := by
  obtain ⟨hnn, ta, tb, tc, hhp, h20, hcs, hw, hc0⟩ := h
  obtain ⟨p1, p2, wa, wb, wc⟩ := dt_w_nd hw
  obtain ⟨f, x, y, z, rfl⟩ := ct_cs wa.1 la
  obtain ⟨q1, q2, wx, wy, wz⟩ := dt_w_nd wa
  obtain ⟨j, fx, fy, fz, px, py, pz, rfl, hnj, tx, ty, tz, rfl⟩ := cl_t_nn ta
  have dj1 := cl_dj hhp
  have dj2 := cl_dj (cl_hp_to ((j :: (fx ++ (fy ++ fz))) ++ (i :: (fb ++ (fc ++ rest)))) hhp (fun y => by simp only [List.count_append, List.count_cons]; omega))
  have i8 := hnn.1
  have j8 := hnj.1
  refine cx_213_0 _ ⟨cp_in i8 (by decide), ?_⟩
  rw [cp_cl (by omega)]
  rintro _ rfl
  rw [hnn.2.2.1]
  refine ⟨cp_in j8 (by decide), ?_⟩
  rw [cp_cl (by omega)]
  rintro _ rfl
  rw [hnj.2.2.2.1]
  refine ⟨cp_in i8 (by decide), ?_⟩
  rintro _ rfl
  refine ⟨cp_in j8 (by decide), ?_⟩
  rintro _ rfl
  have hij : ¬ j = i := fun hc => dj2.1.2.2.2.1 (by simp [hc])
  have w3 : cf_W (cW_1 i) S (cm_wI S 94 i py) := cW_1I (by omega) (by omega)
  have w4 : cf_W (cW_1 j) (cm_wI S 94 i py) (cm_wI (cm_wI S 94 i py) 95 j (Int32.ofNat i)) := cW_1I (by omega) (by omega)
  have nni := cl_nn_1 w4 (fun hc => hij hc.symm) (cl_nn_a (q := py) hnn)
  have nnj := cl_nn_b (q := Int32.ofNat i) (cl_nn_1 w3 hij hnj)
  have ix : ∀ {l : List Nat}, (∀ y, y ∈ l → y ∈ (j :: (fx ++ (fy ++ fz)))) → ¬ i ∈ l := fun hl hc => dj1.1.1 (hl i hc)
  have jx : ∀ {l : List Nat}, (∀ y, y ∈ l → y ∈ (i :: (fb ++ (fc ++ rest)))) → ¬ j ∈ l := fun hl hc => dj2.1.2.2.2.1 (hl j hc)
  have tx4 := cl_t_1 wx.1 w4 dj2.1.1 (cl_t_1 wx.1 w3 (ix (fun y hy => by simp [hy])) tx)
  have ty4 := cl_t_1 wy.1 w4 dj2.1.2.1 (cl_t_1 wy.1 w3 (ix (fun y hy => by simp [hy])) ty)
  have tz4 := cl_t_1 wz.1 w4 dj2.1.2.2.1 (cl_t_1 wz.1 w3 (ix (fun y hy => by simp [hy])) tz)
  have tb4 := cl_t_1 wb.1 w4 (jx (fun y hy => by simp [hy])) (cl_t_1 wb.1 w3 dj1.1.2.1 tb)
  have tc4 := cl_t_1 wc.1 w4 (jx (fun y hy => by simp [hy])) (cl_t_1 wc.1 w3 dj1.1.2.2.1 tc)
  have w34 : cf_W (cW_mp rest) S (cm_wI (cm_wI S 94 i py) 95 j (Int32.ofNat i)) := cf_tr (cW_1mp dj1.1.2.2.2.2 dj1.1.2.2.2.1 w3) (cW_1mp dj2.1.2.2.2.2 (jx (fun y hy => by simp [hy])) w4)
  refine k _ j _ sp nx c0 (cl_nn_t nnj tx4 (cl_nn_t nni ty4 tb4 tc4) tz4) j8 (cl_hp_1 w4 (cl_hp_1 w3 (cl_hp_to _ hhp (fun y => by simp only [List.count_append, List.count_cons]; omega)))) ?_ (cl_cs_f w4 (decide_eq_false (by omega)) (fun j => decide_eq_false (by omega)) (cl_cs_f w3 (decide_eq_false (by omega)) (fun j => decide_eq_false (by omega)) hcs)) (Nat.le_refl _) (by omega) w34
  exact dm_20 w4 (decide_eq_false (by omega)) (dm_20 w3 (decide_eq_false (by omega)) h20)
theorem cp_214 {p : Nat} {v q1 q2 : Int32} (h : cl_nn S p e pa pb pc) (k : ∀ S2, cl_nn S2 p (6, e.2.1, v, -1) q1 q2 (-1) → cf_W (cW_1 p) S S2 → K (.inl (some (.int (Int32.ofNat p)))) S2 0) :
    cm_At (am_XX L xs) (d + 1) 214 0 [some (.ref 83), some (.int (Int32.ofNat p)), some (.int v), some (.int q1), some (.int q2)] [] S K := by
  have p8 := h.1
  refine cx_214_0 _ _ _ _ ⟨cp_in p8 (by decide), ?_⟩
  rw [cp_cl (by omega)]
  rintro _ rfl
  refine ⟨cp_in p8 (by decide), ?_⟩; rintro _ rfl
  refine ⟨cp_in p8 (by decide), ?_⟩; rintro _ rfl
  refine ⟨cp_in p8 (by decide), ?_⟩; rintro _ rfl
  refine ⟨cp_in p8 (by decide), ?_⟩; rintro _ rfl
  refine ⟨cp_in p8 (by decide), ?_⟩; rintro _ rfl
  exact k _ (cl_nn_c (cl_nn_b (cl_nn_a (cl_nn_w (cl_nn_v (cl_nn_k h)))))) (cf_tr (cW_1I (by omega) (by omega)) (cf_tr (cW_1I (by omega) (by omega)) (cf_tr (cW_1I (by omega) (by omega)) (cf_tr (cW_1I (by omega) (by omega)) (cf_tr (cW_1I (by omega) (by omega)) (cW_1I (by omega) (by omega)))))))
theorem cp_212 {q : Int32} (k : K (.inl (some (.int (if dt_lk q = true then 1 else 0)))) S 0) : cm_At (am_XX L xs) (d + 1) 212 0 [some (.int q)] [] S K := by
  have hl : dt_lk q = true ↔ q = 6 ∨ q = 7 ∨ q = 8 := decide_eq_true_iff
  refine cx_212_0 _ ⟨fun h => ⟨Or.inr rfl, ?_⟩, fun h6 => ⟨fun h => ⟨Or.inr rfl, ?_⟩, fun h7 => ⟨fun h => ⟨Or.inr rfl, ?_⟩, fun h8 => ⟨Or.inl rfl, ?_⟩⟩⟩⟩
  · rw [if_pos (hl.mpr (Or.inl h))] at k; exact k
  · rw [if_pos (hl.mpr (Or.inr (Or.inl h)))] at k; exact k
  · rw [if_pos (hl.mpr (Or.inr (Or.inr h)))] at k; exact k
  · rw [if_neg (fun hc => by
      rcases hl.mp hc with h | h | h
      · exact h6 h
      · exact h7 h
      · exact h8 h)] at k; exact k
/-- an application -/
theorem cp_217 {U : Nat → ct_T} (hU : ct_ds U) (hdU : dm_d S U) (h : dm_p S i e a b c fa fb fc pa pb pc sp nx rest n c0) (he : e.1 = 5) (hcap : dm_c (dt_ap (dt_U (fun g => ct_pre (U g))) n e a b c) rest) (hsa : ct_sz a ≤ 150) (hsb : ct_sz b ≤ 150) (k : dm_st (dt_ap (dt_U (fun g => ct_pre (U g))) n e a b c) S rest c0 K) :
    cm_At (am_XX L xs) (d + 480) 217 0 [some (.ref 83), some (.int (Int32.ofNat i)), none, none] [] S K := by
  have h' := h
  obtain ⟨hnn, ta, tb, tc, hhp, h20, hcs, hw, hc0⟩ := h
  obtain ⟨p1, p2, wa, wb, wc⟩ := dt_w_nd hw
  obtain ⟨la, lb, lc⟩ := ct_q2 hw.1 (Or.inl he)
  subst lc
  obtain ⟨rfl, rfl⟩ := tc
  have ta' := ta
  obtain ⟨f, x, y, z, rfl⟩ := ct_cs wa.1 la
  obtain ⟨q1, q2, wx, wy, wz⟩ := dt_w_nd wa
  obtain ⟨j, fx, fy, fz, px, py, pz, rfl, hnj, tx, ty, tz, rfl⟩ := cl_t_nn ta
  have dj1 := cl_dj hhp
  have hhp2 := cl_hp_to ((j :: (fx ++ (fy ++ fz))) ++ (i :: (fb ++ rest))) hhp (fun y => by simp only [List.count_append, List.count_cons, List.count_nil]; omega)
  have dj2 := cl_dj hhp2
  have i8 := hnn.1
  have j8 := hnj.1
  have hij : ¬ i = j := fun hc => dj1.1.1 (by simp [hc])
  obtain ⟨kj, nj, vj, wj⟩ := dm_nk hnj
  have e20 : e.2.1 = 0 := p2.2.2.2 (by rw [he]; decide)
  unfold dt_ap at k hcap
  rw [show dt_k (ct_nd f x y z) = f.1 from rfl] at k hcap
  refine cx_217_0 _ ⟨cp_in i8 (by decide), ?_⟩
  rw [cp_cl (by omega)]
  rintro _ rfl
  rw [hnn.2.2.1]
  refine ⟨cp_in j8 (by decide), ?_⟩
  rw [cp_cl (by omega)]
  rintro _ rfl
  rw [kj]
  refine ⟨fun h4 => ?_, fun h4 => ?_⟩
  · rw [if_pos h4] at k hcap
    obtain ⟨lx, ly, lz⟩ := ct_q1 wa.1 (Or.inl h4)
    subst ly; subst lz
    obtain ⟨rfl, rfl⟩ := ty
    obtain ⟨rfl, rfl⟩ := tz
    refine ⟨cp_in j8 (by decide), ?_⟩
    rintro _ rfl
    refine ⟨cp_in i8 (by decide), ?_⟩
    rintro _ rfl
    refine ⟨cp_in j8 (by decide), ?_⟩
    rintro _ rfl
    rw [vj, hnn.2.2.2.1, hnj.2.2.1]
    refine cp_214 hnn (fun S1 n1 w1 => cp_r1 ?_)
    have nj1 := cl_nn_1 w1 (fun hc => hij hc.symm) hnj
    have tb1 := cl_t_1 wb.1 w1 dj1.1.2.1 tb
    have tx1 := cl_t_1 wx.1 w1 (fun hc => dj1.1.1 (by simp [hc])) tx
    refine cp_215 (rest := fx ++ (i :: (fb ++ rest))) (cl_hp_to _ (cl_hp_1 w1 hhp2) (fun y => by simp only [List.count_append, List.count_cons, List.count_nil]; omega)) (fun S2 sp2 hp2 w2 => cp_r0 ?_)
    have n2 := cl_nn_dp w2 hij n1
    have tb2 := cl_t_dp wb.1 w2 (fun hc => dj2.1.2.2.2.1 (by simp [hc])) tb1
    have tx2 := cl_t_dp wx.1 w2 dj2.1.1 tx1
    have hres := cl_nn_t n2 tb2 tx2 (cl_t_lf.mpr ⟨rfl, rfl⟩)
    rw [e20] at hres
    refine k S2 i (i :: (fb ++ (fx ++ []))) sp2 nx c0 hres i8 (cl_hp_to _ hp2 (fun y => by simp only [List.count_append, List.count_cons, List.count_nil]; omega)) (dm_20 w2 (decide_eq_false (by omega)) (dm_20 w1 (decide_eq_false (by omega)) h20)) (cl_cs_f w2 (decide_eq_false (by omega)) (fun j => decide_eq_false (by omega)) (cl_cs_f w1 (decide_eq_false (by omega)) (fun j => decide_eq_false (by omega)) hcs)) (Nat.le_refl _) (by omega) (cf_tr (cW_1mp dj1.1.2.2.2.2 dj1.1.2.2.2.1 w1) (cW_mp_dp dj2.1.2.2.2.2 (fun hc => dj2.1.2.2.2.1 (by simp [hc])) w2))
  rw [if_neg h4] at k hcap
  refine ⟨cp_in j8 (by decide), ?_⟩
  rintro _ rfl
  refine cp_212 (cp_r1 ?_)
  by_cases hlk : dt_lk f.1 = true
  · rw [if_pos hlk] at k
    rw [if_pos hlk]
    refine ⟨fun h => absurd h (by decide), fun _ => ?_⟩
    refine cp_213 h' la (fun S2 i2 fp2 sp2 nx2 c2 r1 r2 r3 r4 r5 r6 r7 r8 => cp_r1 ?_)
    exact k S2 i2 fp2 sp2 nx2 c2 r1 r2 r3 r4 r5 r6 r7 r8
  rw [if_neg hlk] at k hcap
  rw [if_neg hlk]
  refine ⟨fun _ => ⟨cp_in j8 (by decide), ?_⟩, fun h => absurd rfl h⟩
  rintro _ rfl
  rw [kj]
  have knone : ¬ (f.1 = 3 ∧ dt_sm (dt_U (fun g => ct_pre (U g)) (dt_gn (dt_e (ct_nd f x y z)))) = true) → K (.inl (some (.int (-1)))) S 0 := fun hn => by
    rw [if_neg hn] at k
    exact k S cf_rfl
  refine ⟨fun h3 => ⟨cp_in j8 (by decide), ?_⟩, fun h3 => ⟨fun _ => knone (fun hc => h3 hc.1), fun h => absurd rfl h⟩⟩
  rintro _ rfl
  rw [nj]
  have hnum := (q2.1 h3)
  obtain ⟨g1, g2⟩ := cu_i32 hnum
  have hgn : dt_gn (dt_e (ct_nd f x y z)) = f.2.1.toInt32.toNatClampNeg := rfl
  rw [hgn] at k hcap knone
  generalize hg : f.2.1.toInt32.toNatClampNeg = g at g1 g2 k hcap knone
  have hCg : dt_U (fun g => ct_pre (U g)) g = ct_pre (U g) := if_pos g2
  rw [hCg] at k hcap knone
  rw [g1]
  refine ⟨cp_in g2 (by decide), ?_⟩
  rintro _ rfl
  by_cases hl : U g = .leaf
  · rw [(hdU.2 g g2).1 hl]
    exact ⟨fun _ => ⟨fun _ => knone (fun hc => by have := hc.2; rw [hl] at this; cases this), fun h => absurd rfl h⟩, fun h => absurd rfl h⟩
  rw [(hdU.2 g g2).2 hl]
  refine ⟨fun h => absurd h (by decide), fun _ => ⟨cp_in j8 (by decide), ?_⟩⟩
  rintro _ rfl
  rw [g1, show (8 : Int32) = Int32.ofNat 8 from rfl, cp_ad]
  refine ⟨cp_in (by omega) (by decide), ?_⟩
  rw [cp_cl (by omega)]
  rintro _ rfl
  obtain ⟨hslot, hcore⟩ := hdU.1 g g2 hl
  obtain ⟨hco, hcan⟩ := hU g g2 hl
  obtain ⟨hpco, _⟩ := ct_pre_co hco
  have hpsz : ct_sz (ct_pre (U g)) = ct_sz (U g) := ct_map_sz _
  rw [hslot]
  refine ⟨fun h => absurd h (cp_m1 (by omega)), fun _ => ⟨cp_in (by omega) (by decide), ?_⟩⟩
  rw [cp_cl (by omega)]
  rintro _ rfl
  have hkc : S.1 92 (1200 + 150 * g) = dt_k (ct_pre (U g)) := by
    obtain ⟨f2, x2, y2, z2, he2⟩ := ct_cs hpco.1 hpco.2.1
    rw [he2] at hcore ⊢
    obtain ⟨j2, _, _, _, _, _, _, hj2, hn2, _⟩ := cl_t_nn hcore
    have hj3 : 1200 + 150 * g = j2 := (cp_inj (by omega) (by have := hn2.1; omega)).mp hj2
    rw [hj3]
    exact (dm_nk hn2).1
  rw [hkc]
  refine ⟨fun hk4 => ?_, fun hk4 => knone (fun hc => hk4 (dt_sm_of hc.2).1)⟩
  refine cp_204D (by have := hpco.2.2.2.2.2.2.2; omega) hpco.1 (by have := hpco.2.2.2.2.2.2.2; omega) hcore (cp_r1 ?_)
  rw [cp_lt (by omega) (by have := hpco.2.2.2.2.2.2.2; omega)]
  refine ⟨fun h8 => knone (fun hc => by have := (dt_sm_of hc.2).2.1; omega), fun h8 => ?_⟩
  refine cp_207D (by omega) hpco.1 hcore (cp_r1 ?_)
  cases hhg : ct_hg (ct_fl (ct_pre (U g))) with
  | true =>
    rw [if_pos rfl]
    exact ⟨fun h => absurd h (by decide), fun _ => knone (fun hc => by have := (dt_sm_of hc.2).2.2.1; rw [hhg] at this; cases this)⟩
  | false =>
    rw [if_neg (by decide)]
    refine ⟨fun _ => ?_, fun h => absurd rfl h⟩
    have hsm : dt_sm (ct_pre (U g)) = true := by
      unfold dt_sm
      rw [decide_eq_true hk4, decide_eq_true (by omega : ct_sz (ct_pre (U g)) ≤ 8), hhg]; rfl
    rw [if_pos ⟨h3, hsm⟩] at k hcap
    obtain ⟨hm, hcp⟩ := hcap _ rfl
    dsimp only at hm hcp
    obtain ⟨lx, ly, lz⟩ := ct_q0 wa.1 (Or.inr (Or.inr (Or.inl h3)))
    subst lx; subst ly; subst lz
    obtain ⟨rfl, rfl⟩ := tx
    obtain ⟨rfl, rfl⟩ := ty
    obtain ⟨rfl, rfl⟩ := tz
    refine cp_215 (rest := i :: (fb ++ rest)) (cl_hp_to _ hhp2 (fun y => by simp only [List.count_append, List.count_cons, List.count_nil]; omega)) (fun S1 sp1 hp1 w1 => cp_r0 ?_)
    have hrng : ∀ y, y ∈ List.range' (1200 + 150 * g) (ct_sz (U g)) → y < 4800 := fun y hy => by
      have := List.mem_range'_1.mp hy
      omega
    have j48 := dj2.1.2.2.2.2
    have core1 := cl_t_dp hpco.1 w1 (fun hc => by have := hrng j hc; omega) hcore
    have n1 := cl_nn_dp w1 hij hnn
    have tb1 := cl_t_dp wb.1 w1 (fun hc => dj2.1.2.2.2.1 (by simp [hc])) tb
    have lenb := (cl_t_len b wb.1 _ _ tb).1
    have hcsz : ct_sz (dt_cp n (ct_pre (U g))) = ct_sz (ct_pre (U g)) := ct_map_sz _
    rw [ct_sz_nd] at hcp
    refine cp_202h (by omega) (ct_co_gd hpco) hm core1 hp1 (by rw [List.length_cons, List.length_append]; omega) (fun y hy => Or.inr (hrng y hy)) (dm_20 w1 (decide_eq_false (by omega)) h20) (cl_cs_f w1 (decide_eq_false (by omega)) (fun j => decide_eq_false (by omega)) hcs) (by omega) (fun S2 q l sp2 nx2 t2 hp2 hl2 h202 hcs2 w2 => cp_r1 ⟨cp_in i8 (by decide), ?_⟩)
    have w2m : cf_W (cW_mp (i :: (fb ++ rest))) S1 S2 := cW_mp_cy hl2 w2
    have n2 := cl_nn_mp w2m (by simp) n1
    have tb2 := cl_t_mp wb.1 w2m (fun y hy => Or.inl (by simp [hy])) tb1
    have w3 : cf_W (cW_1 i) S2 (cm_wI S2 94 i q) := cW_1I (by omega) (by omega)
    have hil : ¬ i ∈ l := fun hc => (hl2 i hc).1 (by simp)
    rintro _ rfl
    refine k (cm_wI S2 94 i q) i (i :: (l ++ (fb ++ []))) sp2 nx2 (c0 + 1) (cl_nn_t (cl_nn_a (q := q) n2) (cl_t_1 (ct_map_wf _ hpco.1) w3 hil t2) (cl_t_1 wb.1 w3 dj1.1.2.1 tb2) (cl_t_lf.mpr ⟨rfl, rfl⟩)) i8 (cl_hp_1 w3 (cl_hp_to _ hp2 (fun y => by simp only [List.count_append, List.count_cons, List.count_nil]; omega))) (dm_20 w3 (decide_eq_false (by omega)) h202) (cl_cs_f w3 (decide_eq_false (by omega)) (fun j => decide_eq_false (by omega)) hcs2) (by omega) (by omega) ?_
    exact cf_tr (cW_mp_dp j48 (fun hc => dj2.1.2.2.2.1 (by simp [hc])) w1) (cf_tr (cW_mp_mo (fun y hy => by simp [hy]) w2m) (cW_1mp dj1.1.2.2.2.2 dj1.1.2.2.2.1 w3))
end CPa11
