/-! ## 77 which parameters are needed: the rounds -/
/-- what is in the LAMBDAs that a tree begins with -/
def cu_in : Nat → ct_T → ct_T
  | 0, t => t
  | n + 1, .inner x e u a (.inner m e2 u2 b c) => if e.1 = 4 then cu_in n a else .inner x e u a (.inner m e2 u2 b c)
  | _ + 1, t => t
theorem cu_in_nd {n : Nat} {e : ct_D} {a b c : ct_T} : cu_in (n + 1) (ct_nd e a b c) = if e.1 = 4 then cu_in n a else ct_nd e a b c := rfl
/-- the name of a parameter -/
def cu_pn : Nat → ct_T → Int32
  | 0, .inner _ e _ _ (.inner _ _ _ _ _) => e.2.2.1
  | k + 1, .inner _ _ _ a (.inner _ _ _ _ _) => cu_pn k a
  | _, _ => -1
theorem cu_pn_bo : ∀ (n : Nat) (t : ct_T), ct_wf t → ∀ k, k < ct_pd n t → (ct_bo t)[k]? = some (cu_pn k t)
  | 0, t, _, k, hk => absurd hk (by show ¬ k < 0; omega)
  | n + 1, t, hw, k, hk => by
    revert k
    refine ct_ind (P := fun t => ∀ k, k < ct_pd (n + 1) t → (ct_bo t)[k]? = some (cu_pn k t)) (fun k hk => absurd hk (by show ¬ k < 0; omega)) (fun e a b c hw _ _ _ k hk => ?_) t hw
    rw [ct_pd_nd] at hk
    by_cases h4 : e.1 = 4
    · rw [if_pos h4] at hk
      rw [ct_bo_nd, if_pos (Or.inl h4)]
      rcases k with _ | k
      · rfl
      · rw [List.getElem?_cons_succ]
        have h1 := cu_pn_bo n a (ct_wf_nd hw).2.2.2.2.1 k (by omega)
        rw [List.getElem?_append, if_pos (List.getElem?_eq_some_iff.mp h1).1]
        exact h1
    · rw [if_neg h4] at hk; omega
theorem cu_pn_map {f : Int32 → Int32} : ∀ (n : Nat) (t : ct_T), ct_wf t → ∀ k, k < ct_pd n t → cu_pn k (ct_map f t) = f (cu_pn k t)
  | 0, t, _, k, hk => absurd hk (by show ¬ k < 0; omega)
  | n + 1, t, hw, k, hk => by
    revert k
    refine ct_ind (P := fun t => ∀ k, k < ct_pd (n + 1) t → cu_pn k (ct_map f t) = f (cu_pn k t)) (fun k hk => absurd hk (by show ¬ k < 0; omega)) (fun e a b c hw _ _ _ k hk => ?_) t hw
    rw [ct_pd_nd] at hk
    by_cases h4 : e.1 = 4
    · rw [if_pos h4] at hk
      rw [ct_map_nd]
      rcases k with _ | k
      · rfl
      · exact cu_pn_map n a (ct_wf_nd hw).2.2.2.2.1 k (by omega)
    · rw [if_neg h4] at hk; omega
theorem ct_ix_get {x : Int32} : ∀ {l : List Int32} {k : Nat}, l.Nodup → l[k]? = some x → ct_ix x l = k
  | [], k, _, h => by simp at h
  | y :: l, 0, _, h => by
    rw [List.getElem?_cons_zero] at h
    cases h
    rw [ct_ix_cons, if_pos rfl]
  | y :: l, k + 1, hn, h => by
    rw [List.getElem?_cons_succ] at h
    rw [List.nodup_cons] at hn
    rw [ct_ix_cons, if_neg (fun hc => hn.1 (by rw [hc]; exact List.mem_of_getElem? h)), ct_ix_get hn.2 h, Nat.add_comm]
/-- in a core the parameters are the first variables -/
theorem cu_pn_can {t : ct_T} (hc : ct_co t) (hcan : ct_can t = t) {k : Nat} (hk : k < ct_pd 4 t) : cu_pn k t = Int32.ofNat k := by
  have h1 := cu_pn_bo 4 t hc.1 k hk
  have h2 := cu_pn_map (f := ct_rp (ct_bo t) (ct_bo t)) 4 t hc.1 k hk
  rw [show ct_map (ct_rp (ct_bo t) (ct_bo t)) t = t from hcan] at h2
  rw [h2]
  unfold ct_rp
  rw [if_pos (List.mem_of_getElem? h1), ct_ix_get (ct_co_bo hc) h1]
theorem ct_map_in {f : Int32 → Int32} : ∀ t, ct_wf t → ct_map f t = t → ∀ e, e ∈ ct_fl t → f e.2.2.1 = e.2.2.1 ∧ f e.2.2.2 = e.2.2.2 := by
  intro t hw h e he
  have h2 := ct_map_fl (f := f) t
  rw [h] at h2
  have h3 : ct_rd f e = e := by
    obtain ⟨i, hi⟩ := List.getElem?_of_mem he
    have h4 := congrArg (fun l => l[i]?) h2
    simp only [List.getElem?_map, hi, Option.map_some] at h4
    exact (Option.some.inj h4).symm
  exact ⟨congrArg (fun x => x.2.2.1) h3, congrArg (fun x => x.2.2.2) h3⟩
theorem cu_ok_can {t : ct_T} (hc : ct_co t) (hcan : ct_can t = t) : ∀ e, e ∈ ct_fl t → (e.2.2.1 = -1 ∨ (0 ≤ e.2.2.1.toInt ∧ e.2.2.1.toInt < 150)) ∧ (e.2.2.2 = -1 ∨ (0 ≤ e.2.2.2.toInt ∧ e.2.2.2.toInt < 150)) := by
  intro e he
  obtain ⟨h1, h2⟩ := ct_map_in t hc.1 hcan e he
  have hcn := ct_cn0_of hc.2.2.1 (ct_co_cl hc) e he
  have hl := (ct_co_len hc).2
  have go : ∀ x : Int32, (x = -1 ∨ x ∈ ct_bl (ct_fl t)) → ct_rp (ct_bo t) (ct_bo t) x = x → x = -1 ∨ (0 ≤ x.toInt ∧ x.toInt < 150) := by
    intro x hx hf
    rcases hx with hx | hx
    · exact Or.inl hx
    · have hm := (ct_bo_perm t hc.1).mem_iff.mpr hx
      have hlt := ct_ix_lt hm
      unfold ct_rp at hf
      rw [if_pos hm] at hf
      rw [← hf, cp_tI (by omega)]
      exact Or.inr ⟨by omega, by omega⟩
  exact ⟨go _ hcn.1 h1, go _ hcn.2 h2⟩
/-- all parameters -/
def cu_al (U : Nat → ct_T) (g k : Nat) : Bool := decide (g < 8) && decide (k < cu_M U g)
def cu_pv (U : Nat → ct_T) (g k : Nat) : Nat := (cu_pn k (U g)).toNatClampNeg
/-- a round -/
def cu_F (U : Nat → ct_T) (Q : Nat → Nat → Bool) (g k : Nat) : Bool := Q g k && cu_nq Q (cu_M U) (cu_in 4 (U g)) (cu_pv U g k)
def cu_it (U : Nat → ct_T) : Nat → Nat → Nat → Bool
  | 0 => cu_al U
  | n + 1 => cu_F U (cu_it U n)
theorem cu_in_wf : ∀ (n : Nat) (t : ct_T), ct_wf t → ct_wf (cu_in n t)
  | 0, t, h => h
  | n + 1, t, h => by
    refine ct_ind (P := fun t => ct_wf (cu_in (n + 1) t)) trivial (fun e a b c hw _ _ _ => ?_) t h
    rw [cu_in_nd]
    split
    · exact cu_in_wf n a (ct_wf_nd hw).2.2.2.2.1
    · exact hw
theorem cu_it_al {U : Nat → ct_T} : ∀ n g k, cu_it U n g k = true → g < 8 ∧ k < cu_M U g
  | 0, g, k, h => by
    unfold cu_it cu_al at h
    simp only [Bool.and_eq_true, decide_eq_true_eq] at h
    exact h
  | n + 1, g, k, h => by
    unfold cu_it cu_F at h
    rw [Bool.and_eq_true] at h
    exact cu_it_al n g k h.1
/-- what is needed of all that is taken to be needed stays -/
theorem cu_it_in {U : Nat → ct_T} (hU : ∀ i, i < 8 → ct_wf (U i)) : ∀ n g k, g < 8 → k < cu_M U g → cu_nq (cu_it U n) (cu_M U) (cu_in 4 (U g)) (cu_pv U g k) = true → cu_it U n g k = true
  | 0, g, k, hg, hk, _ => by
    unfold cu_it cu_al
    rw [decide_eq_true hg, decide_eq_true hk]; rfl
  | n + 1, g, k, hg, hk, h => by
    have h1 := (cu_n2_mo (Q := cu_it U (n + 1)) (Q2 := cu_it U n) (M := cu_M U) (fun g k h => by unfold cu_it cu_F at h; rw [Bool.and_eq_true] at h; exact h.1) (cu_in 4 (U g)) (cu_in_wf 4 _ (hU g hg)) (cu_pv U g k)).1 h
    show (cu_it U n g k && cu_nq (cu_it U n) (cu_M U) (cu_in 4 (U g)) (cu_pv U g k)) = true
    rw [show cu_nq (cu_it U n) (cu_M U) (cu_in 4 (U g)) (cu_pv U g k) = true from h1, cu_it_in hU n g k hg hk h1]; rfl
/-- how many are needed -/
def cu_c (Q : Nat → Nat → Bool) : Nat → Nat
  | 0 => 0
  | n + 1 => cu_c Q n + (if Q (n / 4) (n % 4) = true then 1 else 0)
theorem cu_c_le {Q : Nat → Nat → Bool} : ∀ n, cu_c Q n ≤ n
  | 0 => Nat.le_refl _
  | n + 1 => by
    have := cu_c_le (Q := Q) n
    show cu_c Q n + _ ≤ _
    split <;> omega
theorem cu_c_mo {Q Q2 : Nat → Nat → Bool} (h : ∀ g k, Q2 g k = true → Q g k = true) : ∀ n, cu_c Q2 n ≤ cu_c Q n ∧ (cu_c Q2 n = cu_c Q n → ∀ j, j < n → Q2 (j / 4) (j % 4) = Q (j / 4) (j % 4))
  | 0 => ⟨Nat.le_refl _, fun _ j hj => by omega⟩
  | n + 1 => by
    obtain ⟨h1, h2⟩ := cu_c_mo h n
    have h3 := h (n / 4) (n % 4)
    show cu_c Q2 n + (if Q2 (n / 4) (n % 4) = true then 1 else 0) ≤ cu_c Q n + (if Q (n / 4) (n % 4) = true then 1 else 0) ∧ (cu_c Q2 n + (if Q2 (n / 4) (n % 4) = true then 1 else 0) = cu_c Q n + (if Q (n / 4) (n % 4) = true then 1 else 0) → _)
    cases ha : Q2 (n / 4) (n % 4) with
    | false =>
      cases hb : Q (n / 4) (n % 4) with
      | false =>
        refine ⟨by simpa using h1, fun he j hj => ?_⟩
        by_cases hjn : j = n
        · rw [hjn, ha, hb]
        · exact h2 (by simpa using he) j (by omega)
      | true =>
        refine ⟨by simp; omega, fun he => ?_⟩
        simp at he
        omega
    | true =>
      rw [h3 ha]
      refine ⟨by simpa using h1, fun he j hj => ?_⟩
      by_cases hjn : j = n
      · rw [hjn, ha, h3 ha]
      · exact h2 (by simpa using he) j (by omega)
theorem cu_it_dn {U : Nat → ct_T} {n g k : Nat} (h : cu_it U (n + 1) g k = true) : cu_it U n g k = true := by
  unfold cu_it cu_F at h
  rw [Bool.and_eq_true] at h
  exact h.1
/-- a round that takes away none is the last one -/
theorem cu_it_same {U : Nat → ct_T} {n : Nat} (h : cu_c (cu_it U (n + 1)) 32 = cu_c (cu_it U n) 32) : cu_it U (n + 1) = cu_it U n := by
  have h2 := (cu_c_mo (Q := cu_it U n) (Q2 := cu_it U (n + 1)) (fun g k h => cu_it_dn h) 32).2 h
  funext g k
  by_cases hg : g < 8 ∧ k < 4
  · have h3 := h2 (4 * g + k) (by omega)
    rw [show (4 * g + k) / 4 = g by omega, show (4 * g + k) % 4 = k by omega] at h3
    exact h3
  · have hM := cu_M_le (U := U) (g := g)
    have z : ∀ m, cu_it U m g k = false := fun m => by
      cases hz : cu_it U m g k with
      | false => rfl
      | true => have := cu_it_al m g k hz; omega
    rw [z, z]
theorem cu_it_st {U : Nat → ct_T} {n : Nat} (h : cu_it U (n + 1) = cu_it U n) : ∀ m, cu_it U (n + m) = cu_it U n
  | 0 => rfl
  | m + 1 => by
    show cu_F U (cu_it U (n + m)) = _
    rw [cu_it_st h m]
    exact h
/-- what is needed in the end -/
abbrev cu_lim (U : Nat → ct_T) : Nat → Nat → Bool := cu_it U 32
theorem cu_lim_of {U : Nat → ct_T} {n : Nat} (hn : n ≤ 32) (h : cu_it U (n + 1) = cu_it U n) : cu_it U n = cu_lim U := by
  have := cu_it_st h (32 - n)
  rw [show n + (32 - n) = 32 by omega] at this
  exact this.symm
theorem cu_it_le {U : Nat → ct_T} {n : Nat} (h : ¬ cu_it U (n + 1) = cu_it U n) : cu_c (cu_it U (n + 1)) 32 < cu_c (cu_it U n) 32 := by
  have h2 := (cu_c_mo (Q := cu_it U n) (Q2 := cu_it U (n + 1)) (fun g k h => cu_it_dn h) 32).1
  by_cases he : cu_c (cu_it U (n + 1)) 32 = cu_c (cu_it U n) 32
  · exact absurd (cu_it_same he) h
  · omega
/-- the set at the place where the parameters end -/
theorem ck_sa_in {Q : Nat → Nat → Bool} {M : Nat → Nat} {S : cm_S} : ∀ (n : Nat) (t : ct_T), ct_wf t → ∀ p, ¬ t = .leaf → ck_sa Q M S t p → ck_sb S (p + ct_pd n t) (cu_nq Q M (cu_in n t))
  | 0, t, hw, p, hn, h => ck_sa_sb hw hn h
  | n + 1, t, hw, p, hn, h => by
    revert p hn h
    refine ct_ind (P := fun t => ∀ p, ¬ t = .leaf → ck_sa Q M S t p → ck_sb S (p + ct_pd (n + 1) t) (cu_nq Q M (cu_in (n + 1) t))) (fun p hn => absurd rfl hn) (fun e a b c hw _ _ _ p _ h => ?_) t hw
    rw [cu_in_nd, ct_pd_nd]
    by_cases h4 : e.1 = 4
    · rw [if_pos h4, if_pos h4, show p + (1 + ct_pd n a) = p + 1 + ct_pd n a by omega]
      rw [ck_sa_nd] at h
      exact ck_sa_in n a (ct_wf_nd hw).2.2.2.2.1 (p + 1) (ct_q1 hw (Or.inl h4)).1 h.2.1
    · rw [if_neg h4, if_neg h4]
      rw [ck_sa_nd] at h
      exact h.1
/-- the low bits of a long -/
theorem cu_lo {x : Int64} {f : Nat → Bool} (h : ∀ b, b < 4 → cu_b x b = f b) {m : Nat} (hm : m < 5) : x.toInt32 &&& Int32.ofNat (cu_mf (fun k => decide (k < m))) = Int32.ofNat (cu_mf (fun k => f k && decide (k < m))) := by
  have h1 : x &&& 15 = Int64.ofNat (cu_mf f) := by
    rw [← Int64.toBitVec_inj]
    refine BitVec.eq_of_getLsbD_eq (fun i hi => ?_)
    have e1 : (x &&& 15).toBitVec.getLsbD i = (cu_b x i && cu_b 15 i) := cu_b_an
    rw [e1]
    have h3 : ∀ a b c e : Bool, ∀ i : Fin 64, cu_b 15 i.val = decide (i.val < 4) ∧ (Int64.ofNat (cu_mk a b c e)).toBitVec.getLsbD i.val = (if i.val = 0 then a else if i.val = 1 then b else if i.val = 2 then c else if i.val = 3 then e else false) := by decide +kernel
    obtain ⟨g1, g2⟩ := h3 (f 0) (f 1) (f 2) (f 3) ⟨i, hi⟩
    rw [show cu_b 15 i = decide (i < 4) from g1]
    refine Eq.trans ?_ (show (Int64.ofNat (cu_mf f)).toBitVec.getLsbD i = _ from g2).symm
    by_cases hi4 : i < 4
    · rw [decide_eq_true hi4, Bool.and_true, h i hi4]
      rcases i with _ | _ | _ | _ | i
      · rfl
      · rfl
      · rfl
      · rfl
      · omega
    · rw [decide_eq_false hi4, Bool.and_false]
      dsimp only
      rw [if_neg (by omega), if_neg (by omega), if_neg (by omega), if_neg (by omega)]
  have h4 : x.toInt32 &&& Int32.ofNat (cu_mf (fun k => decide (k < m))) = (x &&& 15).toInt32 &&& Int32.ofNat (cu_mf (fun k => decide (k < m))) := by
    have h5 : ∀ m : Fin 5, (15 : Int64).toInt32 &&& Int32.ofNat (cu_mf (fun k => decide (k < m.val))) = Int32.ofNat (cu_mf (fun k => decide (k < m.val))) := by decide +kernel
    rw [Int64.toInt32_and, Int32.and_assoc, h5 ⟨m, hm⟩]
  rw [h4, h1]
  have h6 : ∀ a b c e : Bool, ∀ m : Fin 5, (Int64.ofNat (cu_mk a b c e)).toInt32 &&& Int32.ofNat (cu_mf (fun k => decide (k < m.val))) = Int32.ofNat (cu_mk (a && decide (0 < m.val)) (b && decide (1 < m.val)) (c && decide (2 < m.val)) (e && decide (3 < m.val))) := by decide +kernel
  exact h6 (f 0) (f 1) (f 2) (f 3) ⟨m, hm⟩
theorem cu_mf_inj {f g : Nat → Bool} (h : cu_mf f = cu_mf g) : ∀ k, k < 4 → f k = g k := by
  have h2 : ∀ a b c e a2 b2 c2 e2 : Bool, cu_mk a b c e = cu_mk a2 b2 c2 e2 → a = a2 ∧ b = b2 ∧ c = c2 ∧ e = e2 := by decide +kernel
  obtain ⟨h3, h4, h5, h6⟩ := h2 _ _ _ _ _ _ _ _ h
  intro k hk
  rcases k with _ | _ | _ | _ | k
  · exact h3
  · exact h4
  · exact h5
  · exact h6
  · omega
theorem cu_mf_co {f g : Nat → Bool} (h : ∀ k, k < 4 → f k = g k) : cu_mf f = cu_mf g := by
  unfold cu_mf
  rw [h 0 (by omega), h 1 (by omega), h 2 (by omega), h 3 (by omega)]
theorem cu_mf_lt {f : Nat → Bool} : cu_mf f < 16 := by
  have h2 : ∀ a b c e : Bool, cu_mk a b c e < 16 := by decide +kernel
  exact h2 _ _ _ _
theorem cu_mf_0 {f : Nat → Bool} : cu_mf f = 0 ↔ ∀ k, k < 4 → f k = false := by
  refine ⟨fun h => ?_, fun h => ?_⟩
  · exact cu_mf_inj (g := fun _ => false) (h.trans rfl)
  · exact (cu_mf_co (g := fun _ => false) h).trans rfl
