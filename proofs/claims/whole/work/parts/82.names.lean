/-! ## 82 what is needed does not depend on names; bits of ints -/
theorem cu_gl_er {R : ct_R} : ∀ t, ct_wf t → ∀ t2, ct_wf t2 → ct_er R t t2 → cu_gl t = cu_gl t2 ∧ cu_ar t = cu_ar t2 :=
  ct_ind (fun t2 hw2 h => by rw [ct_er_lf hw2 h]; exact ⟨rfl, rfl⟩) (fun e a b c hw iha ihb ihc t2 hw2 h => by
    obtain ⟨f, x, y, z, rfl, h1, h2, h3, h4⟩ := ct_er_el hw2 h
    obtain ⟨g1, g2⟩ := iha x (ct_wf_nd hw2).2.2.2.2.1 h2
    show (if e.1 = 5 then cu_gl a else if e.1 = 3 then some e.2.1.toInt32.toNatClampNeg else none) = (if f.1 = 5 then cu_gl x else if f.1 = 3 then some f.2.1.toInt32.toNatClampNeg else none) ∧ (if e.1 = 5 then cu_ar a + 1 else 0) = (if f.1 = 5 then cu_ar x + 1 else 0)
    rw [h1.1, h1.2.1, g1, g2]
    exact ⟨rfl, rfl⟩)
theorem cu_nn {x : Int32} (h : 0 ≤ x.toInt) : Int32.ofNat x.toNatClampNeg = x := by
  obtain ⟨i, rfl, _, h2⟩ := cp_of h
  rw [cp_cl h2]
theorem cu_n2_er {R : ct_R} (hb : ct_bi R) (hp : ∀ x y, R x y → 0 ≤ x.toInt ∧ 0 ≤ y.toInt) {Q : Nat → Nat → Bool} {M : Nat → Nat} : ∀ t, ct_wf t → ∀ t2, ct_wf t2 → ct_nws t → ct_er R t t2 → ∀ v w, R (Int32.ofNat v) (Int32.ofNat w) → cu_n2 Q M t v = cu_n2 Q M t2 w :=
  ct_ind (fun t2 hw2 _ h v w _ => by rw [ct_er_lf hw2 h]; rfl) (fun e a b c hw iha ihb ihc t2 hw2 hn h v w hvw => by
    obtain ⟨f, x, y, z, rfl, h1, h2, h3, h4⟩ := ct_er_el hw2 h
    obtain ⟨w1, w2, w3, w4, w5, w6, w7⟩ := ct_wf_nd hw2
    obtain ⟨n1, n2, n3, n4⟩ := ct_nws_nd hn
    obtain ⟨g1, g2⟩ := cu_gl_er a (ct_wf_nd hw).2.2.2.2.1 x w5 h2
    rw [cu_n2_nd, cu_n2_nd, ← h1.1, ← g1, ← g2, iha x w5 n2 h2 v w hvw, ihb y w6 n3 h3 v w hvw, ihc z w7 n4 h4 v w hvw]
    by_cases k2 : e.1 = 2
    · rw [if_pos k2, if_pos k2]
      have h5 : R e.2.2.1 f.2.2.1 := by
        rcases h1.2.2.1 with h5 | h5
        · exact absurd h5.1 (n1.1 (Or.inl k2)).1
        · exact h5.2.2
      refine congrArg (fun q => (q, false)) (decide_eq_decide.mpr ⟨fun h6 => ?_, fun h6 => ?_⟩)
      · rw [h6] at h5; exact hb.1 _ _ _ h5 hvw
      · rw [h6] at h5; exact hb.2 _ _ _ h5 hvw
    rw [if_neg k2, if_neg k2]
    by_cases k6 : e.1 = 6
    · have h5 : R e.2.2.1 f.2.2.1 := by
        rcases h1.2.2.1 with h5 | h5
        · exact absurd h5.1 (n1.1 (Or.inr (Or.inr (Or.inl k6)))).1
        · exact h5.2.2
      have h6 := hp _ _ h5
      rw [ihb y w6 n3 h3 e.2.2.1.toNatClampNeg f.2.2.1.toNatClampNeg (by rw [cu_nn h6.1, cu_nn h6.2]; exact h5)]
    · by_cases k5 : e.1 = 5
      · rw [if_pos k5, if_pos k5]
      · rw [if_neg k5, if_neg k5, if_neg k6, if_neg k6])
def cu_B (x : Int32) (k : Nat) : Bool := x.toBitVec.getLsbD k
theorem cu_B_or {x y : Int32} {k : Nat} : cu_B (x ||| y) k = (cu_B x k || cu_B y k) := by
  show (x.toBitVec ||| y.toBitVec).getLsbD k = _
  rw [BitVec.getLsbD_or]
  rfl
theorem cu_B_z {k : Nat} : cu_B 0 k = false := by
  show (0#32).getLsbD k = false
  exact BitVec.getLsbD_zero
theorem cu_B_sh {m k : Nat} (hm : m < 32) (hk : k < 32) : cu_B ((1 : Int32) <<< (Int32.ofNat m &&& 31)) k = decide (k = m) := by
  have h2 : ∀ m k : Fin 32, cu_B ((1 : Int32) <<< (Int32.ofNat m.val &&& 31)) k.val = decide (k.val = m.val) := by decide +kernel
  exact h2 ⟨m, hm⟩ ⟨k, hk⟩
theorem cu_B_a1 {x : Int32} : x &&& 1 = 1 ↔ cu_B x 0 = true := by
  rw [← Int32.toBitVec_inj]
  show x.toBitVec &&& 1#32 = 1#32 ↔ x.toBitVec.getLsbD 0 = true
  rw [BitVec.and_one_eq_setWidth_ofBool_getLsbD]
  cases x.toBitVec.getLsbD 0
  · exact ⟨fun h => absurd h (by decide), fun h => by cases h⟩
  · exact ⟨fun _ => rfl, fun _ => by decide⟩
theorem cu_B_ts {x : Int32} {m : Nat} (hm : m < 32) : (x >>> (Int32.ofNat m &&& 31)) &&& 1 = 1 ↔ cu_B x m = true := by
  have h2 : ∀ m : Fin 32, (Int32.ofNat m.val &&& 31) = Int32.ofNat m.val ∧ ((Int32.ofNat m.val).toBitVec.smod 32).toNat = m.val := by decide +kernel
  obtain ⟨h3, h4⟩ := h2 ⟨m, hm⟩
  dsimp only at h3 h4
  rw [cu_B_a1, h3]
  show (x.toBitVec.sshiftRight' ((Int32.ofNat m).toBitVec.smod 32)).getLsbD 0 = true ↔ x.toBitVec.getLsbD m = true
  rw [BitVec.getLsbD_sshiftRight', h4, Nat.add_zero, if_pos hm]
  exact Iff.rfl
/-- the names of a core in the model's form -/
theorem cu_ok_pre {t : ct_T} (hc : ct_co t) (hpre : ct_pre t = t) : ∀ e, e ∈ ct_fl t → (e.2.2.1 = -1 ∨ (0 ≤ e.2.2.1.toInt ∧ e.2.2.1.toInt < 150)) ∧ (e.2.2.2 = -1 ∨ (0 ≤ e.2.2.2.toInt ∧ e.2.2.2.toInt < 150)) := by
  intro e he
  obtain ⟨h1, h2⟩ := ct_map_in t hc.1 hpre e he
  have hcn := ct_cn0_of hc.2.2.1 (ct_co_cl hc) e he
  have hl := (ct_co_len hc).1
  have go : ∀ x : Int32, (x = -1 ∨ x ∈ ct_bl (ct_fl t)) → ct_fr 0 (ct_bl (ct_fl t)) x = x → x = -1 ∨ (0 ≤ x.toInt ∧ x.toInt < 150) := by
    intro x hx hf
    rcases hx with hx | hx
    · exact Or.inl hx
    · have hlt := ct_ix_lt hx
      unfold ct_fr at hf
      rw [if_pos hx] at hf
      rw [← hf, cp_tI (by omega)]
      exact Or.inr ⟨by omega, by omega⟩
  exact ⟨go _ hcn.1 h1, go _ hcn.2 h2⟩
theorem ct_pd_map {f : Int32 → Int32} : ∀ (n : Nat) (t : ct_T), ct_pd n (ct_map f t) = ct_pd n t
  | 0, t => rfl
  | n + 1, .leaf => rfl
  | n + 1, .inner _ _ _ _ .leaf => rfl
  | n + 1, .inner _ e _ a (.inner _ _ _ b c) => by
    show (if e.1 = 4 then 1 + ct_pd n (ct_map f a) else 0) = (if e.1 = 4 then 1 + ct_pd n a else 0)
    rw [ct_pd_map n a]
theorem cu_in_map {f : Int32 → Int32} : ∀ (n : Nat) (t : ct_T), ct_wf t → cu_in n (ct_map f t) = ct_map f (cu_in n t)
  | 0, t, _ => rfl
  | n + 1, t, hw => by
    refine ct_ind (P := fun t => cu_in (n + 1) (ct_map f t) = ct_map f (cu_in (n + 1) t)) rfl (fun e a b c hw _ _ _ => ?_) t hw
    rw [ct_map_nd, cu_in_nd, cu_in_nd, cu_in_map n a (ct_wf_nd hw).2.2.2.2.1]
    show (if e.1 = 4 then _ else _) = _
    split
    · rfl
    · rw [← ct_map_nd]
theorem cu_in_sub : ∀ (n : Nat) (t : ct_T), ct_wf t → ∀ e, e ∈ ct_fl (cu_in n t) → e ∈ ct_fl t
  | 0, t, _, e, he => he
  | n + 1, t, hw, e, he => by
    revert he
    refine ct_ind (P := fun t => e ∈ ct_fl (cu_in (n + 1) t) → e ∈ ct_fl t) (fun h => h) (fun e1 a b c hw _ _ _ => ?_) t hw
    rw [cu_in_nd]
    split
    · intro h
      rw [ct_fl_nd]
      exact List.mem_cons_of_mem _ (List.mem_append_left _ (cu_in_sub n a (ct_wf_nd hw).2.2.2.2.1 e h))
    · exact fun h => h
theorem cu_in_er {R : ct_R} : ∀ (n : Nat) (t : ct_T), ct_wf t → ∀ t2, ct_wf t2 → ct_er R t t2 → ct_er R (cu_in n t) (cu_in n t2)
  | 0, t, _, t2, _, h => h
  | n + 1, t, hw, t2, hw2, h => by
    revert t2
    refine ct_ind (P := fun t => ∀ t2, ct_wf t2 → ct_er R t t2 → ct_er R (cu_in (n + 1) t) (cu_in (n + 1) t2)) (fun t2 hw2 h => by rw [ct_er_lf hw2 h]; trivial) (fun e a b c hw _ _ _ t2 hw2 h => ?_) t hw
    obtain ⟨f, x, y, z, rfl, h1, h2, h3, h4⟩ := ct_er_el hw2 h
    rw [cu_in_nd, cu_in_nd, ← h1.1]
    split
    · exact cu_in_er n a (ct_wf_nd hw).2.2.2.2.1 x (ct_wf_nd hw2).2.2.2.2.1 h2
    · exact h
theorem cu_pn_er {R : ct_R} : ∀ (n : Nat) (t : ct_T), ct_wf t → ∀ t2, ct_wf t2 → ct_nws t → ct_er R t t2 → ∀ k, k < ct_pd n t → R (cu_pn k t) (cu_pn k t2)
  | 0, t, _, t2, _, _, h, k, hk => absurd hk (by show ¬ k < 0; omega)
  | n + 1, t, hw, t2, hw2, hn, h, k, hk => by
    revert t2 k hn
    refine ct_ind (P := fun t => ∀ t2, ct_wf t2 → ct_nws t → ct_er R t t2 → ∀ k, k < ct_pd (n + 1) t → R (cu_pn k t) (cu_pn k t2)) (fun t2 hw2 _ h k hk => absurd hk (by show ¬ k < 0; omega)) (fun e a b c hw _ _ _ t2 hw2 hn h k hk => ?_) t hw
    obtain ⟨f, x, y, z, rfl, h1, h2, h3, h4⟩ := ct_er_el hw2 h
    rw [ct_pd_nd] at hk
    by_cases k4 : e.1 = 4
    · rw [if_pos k4] at hk
      rcases k with _ | k
      · rcases h1.2.2.1 with h5 | h5
        · exact absurd h5.1 ((ct_nws_nd hn).1.1 (Or.inr (Or.inl k4))).1
        · exact h5.2.2
      · exact cu_pn_er n a (ct_wf_nd hw).2.2.2.2.1 x (ct_wf_nd hw2).2.2.2.2.1 (ct_nws_nd hn).2.1 h2 k (by omega)
    · rw [if_neg k4] at hk; omega
/-- what is needed of cores in the model's form is what is needed of the cores -/
theorem cu_M_pre {U : Nat → ct_T} : cu_M (fun i => ct_pre (U i)) = cu_M U := funext (fun g => ct_pd_map 4 (U g))
theorem cu_pre_pos {t : ct_T} (hco : ct_co t) (x y : Int32) (hxy : y = ct_fr 0 (ct_bl (ct_fl t)) x ∧ x ∈ ct_bl (ct_fl t)) : 0 ≤ x.toInt ∧ 0 ≤ y.toInt := by
  have hlen := (ct_co_len hco).1
  refine ⟨(ct_bl_mem hco.2.2.2.1 hco.2.2.1 x hxy.2).1, ?_⟩
  rw [hxy.1]
  unfold ct_fr
  have hlt := ct_ix_lt hxy.2
  rw [if_pos hxy.2, cp_tI (by omega)]
  omega
theorem cu_nq_pre {Q : Nat → Nat → Bool} {M : Nat → Nat} {t : ct_T} (hco : ct_co t) {k : Nat} (hk : k < ct_pd 4 t) : cu_nq Q M (cu_in 4 (ct_pre t)) (cu_pn k (ct_pre t)).toNatClampNeg = cu_nq Q M (cu_in 4 t) (cu_pn k t).toNatClampNeg := by
  have hlen := (ct_co_len hco).1
  obtain ⟨hbi, her, hnb⟩ := ct_fr_er hco (n := 0) (B := ct_bl (ct_fl t)) (fun x => Iff.rfl) (by omega)
  have hwp : ct_wf (ct_pre t) := ct_map_wf _ hco.1
  have hr := cu_pn_er 4 t hco.1 (ct_pre t) hwp hco.2.2.1 her k hk
  have hp2 := cu_pre_pos hco _ _ hr
  have h1 := cu_n2_er hbi (cu_pre_pos hco) (Q := Q) (M := M) _ (cu_in_wf 4 _ hco.1) _ (cu_in_wf 4 _ hwp) (fun e he => hco.2.2.1 e (cu_in_sub 4 _ hco.1 e he)) (cu_in_er 4 _ hco.1 _ hwp her) (cu_pn k t).toNatClampNeg (cu_pn k (ct_pre t)).toNatClampNeg (by
    rw [cu_nn hp2.1, cu_nn hp2.2]
    exact hr)
  exact (congrArg Prod.fst h1).symm
theorem cu_F_pre {U : Nat → ct_T} (hU : ct_ds U) {Q : Nat → Nat → Bool} (hQ : ∀ g k, Q g k = true → g < 8 ∧ k < cu_M U g) : cu_F (fun i => ct_pre (U i)) Q = cu_F U Q := by
  funext g k
  unfold cu_F cu_pv
  rw [cu_M_pre]
  cases hq : Q g k with
  | false => rw [Bool.false_and, Bool.false_and]
  | true =>
    rw [Bool.true_and, Bool.true_and]
    obtain ⟨hg, hk⟩ := hQ g k hq
    have hne : ¬ U g = .leaf := fun hc => by
      unfold cu_M at hk
      rw [hc] at hk
      exact absurd hk (by show ¬ k < 0; omega)
    exact cu_nq_pre (hU g hg hne).1 hk
theorem cu_al_pre {U : Nat → ct_T} : cu_al (fun i => ct_pre (U i)) = cu_al U := by
  funext g k
  unfold cu_al
  rw [cu_M_pre]
theorem cu_it_s {U : Nat → ct_T} {n : Nat} : cu_it U (n + 1) = cu_F U (cu_it U n) := rfl
theorem cu_it_pre {U : Nat → ct_T} (hU : ct_ds U) (n : Nat) : cu_it (fun i => ct_pre (U i)) n = cu_it U n := by
  induction n with
  | zero => exact cu_al_pre
  | succ n ih => rw [cu_it_s, cu_it_s, ih, cu_F_pre hU (cu_it_al n)]
