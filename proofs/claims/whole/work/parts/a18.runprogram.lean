/-! ## a18 the run machine: programs and scopes on both sides -/
def dm_R (V : Nat → ct_T) (g : Nat) : ct_R := fun x y => y = ct_fr 0 (ct_bl (ct_fl (V g))) x ∧ x ∈ ct_bl (ct_fl (V g))
/-- a node at place q in core g: the class's tree, the model's -/
def dm_n (A S : cm_S) (V : Nat → ct_T) (g q : Nat) (t t2 : ct_T) : Prop := g < 8 ∧ 150 * g ≤ q ∧ q + ct_sz t ≤ 150 * g + 150 ∧ dt_w t ∧ dt_w t2 ∧ ¬ t = .leaf ∧ ck_t A 58 q t ∧ cl_t S t2 (Int32.ofNat (2400 + q)) (List.range' (2400 + q) (ct_sz t)) ∧ ct_er (dm_R V g) t t2
theorem dm_n_cf {W W2 : Nat → Nat → Bool} {A A2 S S2 : cm_S} {V : Nat → ct_T} {g q : Nat} {t t2 : ct_T} (hA : cf_W W A A2) (h1 : ∀ b j, 59 ≤ b → b ≤ 63 → W b j = false) (hS : cf_W W2 S S2) (h2 : ∀ b x, 92 ≤ b → b ≤ 98 → 2400 ≤ x → x < 3600 → W2 b x = false) (h : dm_n A S V g q t t2) : dm_n A2 S2 V g q t t2 := by
  obtain ⟨n1, n2, n3, n4, n5, n6, n7, n8, n9⟩ := h
  refine ⟨n1, n2, n3, n4, n5, n6, ck_t_cf hA (fun b j q1 q2 _ _ => h1 b j (by omega) (by omega)) n7, cl_t_cf hS t2 n5.1 _ _ (fun b x q1 q2 hx => ?_) n8, n9⟩
  have := List.mem_range'_1.mp hx
  exact h2 b x q1 q2 (by omega) (by omega)
/-- the parts of a node -/
theorem dm_n_nd {A S : cm_S} {V : Nat → ct_T} {g q : Nat} {e : ct_D} {a b c t2 : ct_T} (h : dm_n A S V g q (ct_nd e a b c) t2) : ∃ f x y z pa pb pc, t2 = ct_nd f x y z ∧ cl_nn S (2400 + q) f pa pb pc ∧ ct_ed (dm_R V g) e f ∧ (¬ a = .leaf → pa = Int32.ofNat (2400 + (q + 1)) ∧ dm_n A S V g (q + 1) a x) ∧ (¬ b = .leaf → pb = Int32.ofNat (2400 + (q + 1 + ct_sz a)) ∧ dm_n A S V g (q + 1 + ct_sz a) b y) ∧ (¬ c = .leaf → pc = Int32.ofNat (2400 + (q + 1 + ct_sz a + ct_sz b)) ∧ dm_n A S V g (q + 1 + ct_sz a + ct_sz b) c z) := by
  obtain ⟨n1, n2, n3, n4, n5, n6, n7, n8, n9⟩ := h
  obtain ⟨f, x, y, z, rfl, r1, r2, r3, r4⟩ := ct_er_el n5.1 n9
  obtain ⟨p1, p2, wa, wb, wc⟩ := dt_w_nd n4
  obtain ⟨q1, q2, wx, wy, wz⟩ := dt_w_nd n5
  have sx := ct_er_sz a wa.1 x wx.1 r2
  have sy := ct_er_sz b wb.1 y wy.1 r3
  have sz := ct_er_sz c wc.1 z wz.1 r4
  rw [ct_sz_nd] at n3 n8
  rw [ck_t_nd] at n7
  obtain ⟨t0, t1, t2, t3, t4, t5⟩ := n7
  obtain ⟨i, fa, fb, fc, pa, pb, pc, hi, hnn, ta, tb, tc, hfp⟩ := cl_t_nn n8
  have hii : 2400 + q = i := (cp_inj (by omega) (by have := hnn.1; omega)).mp hi
  have la := (cl_t_len x wx.1 _ _ ta).1
  have lb := (cl_t_len y wy.1 _ _ tb).1
  have lc := (cl_t_len z wz.1 _ _ tc).1
  rw [show 1 + (ct_sz a + (ct_sz b + ct_sz c)) = (ct_sz a + (ct_sz b + ct_sz c)) + 1 by omega, List.range'_succ] at hfp
  injection hfp with h1 h2
  rw [← List.range'_append_1, ← List.range'_append_1] at h2
  obtain ⟨ea, h3⟩ := List.append_inj h2 (by rw [List.length_range', la, sx.1])
  obtain ⟨eb, ec⟩ := List.append_inj h3 (by rw [List.length_range', lb, sy.1])
  subst hii
  rw [← ea] at ta
  rw [← eb] at tb
  rw [← ec] at tc
  have e1 : 2400 + q + 1 = 2400 + (q + 1) := by omega
  have e2 : 2400 + q + 1 + ct_sz a = 2400 + (q + 1 + ct_sz a) := by omega
  have e3 : 2400 + q + 1 + ct_sz a + ct_sz b = 2400 + (q + 1 + ct_sz a + ct_sz b) := by omega
  rw [e1] at ta
  rw [e2] at tb
  rw [e3] at tc
  refine ⟨f, x, y, z, pa, pb, pc, rfl, hnn, r1, fun l => ?_, fun l => ?_, fun l => ?_⟩
  · have hp := cl_t_q x wx.1 (ct_sz_ne wx.1 (fun hc => l (sx.2.mpr hc))) (by rw [← sx.1]; exact ta)
    rw [hp] at ta
    exact ⟨hp, n1, by omega, by omega, wa, wx, l, t3, ta, r2⟩
  · have hp := cl_t_q y wy.1 (ct_sz_ne wy.1 (fun hc => l (sy.2.mpr hc))) (by rw [← sy.1]; exact tb)
    rw [hp] at tb
    exact ⟨hp, n1, by omega, by omega, wb, wy, l, t4, tb, r3⟩
  · have hp := cl_t_q z wz.1 (ct_sz_ne wz.1 (fun hc => l (sz.2.mpr hc))) (by rw [← sz.1]; exact tc)
    rw [hp] at tc
    exact ⟨hp, n1, by omega, by omega, wc, wz, l, t5, tc, r4⟩
section CPa18
variable {L : Nat} {xs : Nat → Int32} {d : Nat} {A S : cm_S} {V : Nat → ct_T} {g q : Nat} {e : ct_D} {a b c t2 : ct_T} {K : cm_K}
theorem dm_gr (h : dm_n A S V g q (ct_nd e a b c) t2) : cp_gr A 58 (Int32.ofNat q) = e := cp_rw (a := 58) (by decide) h.2.2.2.2.2.2.1
theorem dm_8 (h : dm_n A S V g q (ct_nd e a b c) t2) (k : K (.inl (some (.int e.1))) A 0) : cm_At (am_XX L xs) (d + 1) 8 0 [some (.ref 58), some (.int (Int32.ofNat q))] [] A K := by
  refine cp_8 (by decide) ?_
  rw [show cp_g (cm_cap 58) (A.1 (58 + 1)) 0 (Int32.ofNat q) = e.1 from congrArg Prod.fst (dm_gr h)]
  exact k
theorem dm_9 (h : dm_n A S V g q (ct_nd e a b c) t2) (k : K (.inl (some (.int e.2.2.1))) A 0) : cm_At (am_XX L xs) (d + 1) 9 0 [some (.ref 58), some (.int (Int32.ofNat q))] [] A K := by
  refine cp_9 (by decide) ?_
  rw [show cp_g (cm_cap 58) (A.1 (58 + 2)) (-1) (Int32.ofNat q) = e.2.2.1 from congrArg (fun x => x.2.2.1) (dm_gr h)]
  exact k
theorem dm_10 (h : dm_n A S V g q (ct_nd e a b c) t2) (k : K (.inl (some (.int e.2.2.2))) A 0) : cm_At (am_XX L xs) (d + 1) 10 0 [some (.ref 58), some (.int (Int32.ofNat q))] [] A K := by
  refine cp_10 (by decide) ?_
  rw [show cp_g (cm_cap 58) (A.1 (58 + 3)) (-1) (Int32.ofNat q) = e.2.2.2 from congrArg (fun x => x.2.2.2) (dm_gr h)]
  exact k
theorem dm_11 (h : dm_n A S V g q (ct_nd e a b c) t2) (k : K (.inl (some (.long e.2.1))) A 0) : cm_At (am_XX L xs) (d + 1) 11 0 [some (.ref 58), some (.int (Int32.ofNat q))] [] A K := by
  refine cp_11 (by decide) ?_
  rw [show cp_g (cm_cap 58) (A.2 (58 + 4)) 0 (Int32.ofNat q) = e.2.1 from congrArg (fun x => x.2.1) (dm_gr h)]
  exact k
theorem dm_14 (k : K (.inl (some (.int (Int32.ofNat (q + 1))))) A 0) : cm_At (am_XX L xs) (d + 1) 14 0 [some (.ref 58), some (.int (Int32.ofNat q))] [] A K := by
  refine cp_14 (by decide) ?_
  rw [dk_1]
  exact k
theorem dm_15 (h : dm_n A S V g q (ct_nd e a b c) t2) (la : ¬ a = .leaf) (k : K (.inl (some (.int (Int32.ofNat (q + 1 + ct_sz a))))) A 0) : cm_At (am_XX L xs) (d + 2) 15 0 [some (.ref 58), some (.int (Int32.ofNat q))] [] A K := by
  refine cp_15 (by decide) ?_
  rw [cp_2nd (a := 58) (by decide) h.2.2.2.2.2.2.1 h.2.2.2.1.1 la]
  exact k
theorem dm_16 (h : dm_n A S V g q (ct_nd e a b c) t2) (la : ¬ a = .leaf) (lb : ¬ b = .leaf) (k : K (.inl (some (.int (Int32.ofNat (q + 1 + ct_sz a + ct_sz b))))) A 0) : cm_At (am_XX L xs) (d + 2) 16 0 [some (.ref 58), some (.int (Int32.ofNat q))] [] A K := by
  refine cp_16 (by decide) ?_
  rw [cp_3rd (a := 58) (by decide) h.2.2.2.2.2.2.1 h.2.2.2.1.1 la lb]
  exact k
end CPa18
/-- cells of the class as the model numbers them -/
def dm_ce (c : Int32) : Int32 := if c.toInt < 9 then c else c - 1
/-- a cell that can be meant: one of those made -/
def dm_cr (nc : Nat) (c : Int32) : Prop := ∃ m, m < nc ∧ 9 ≤ m ∧ c = Int32.ofNat m
def dm_mc (m : Nat) : Nat := if m < 9 then m else m - 1
theorem dm_ce_at {m : Nat} (h : m < 2147483648) : dm_ce (Int32.ofNat m) = Int32.ofNat (dm_mc m) := by
  unfold dm_ce dm_mc
  rw [cp_tI h]
  by_cases h9 : m < 9
  · rw [if_pos (by omega), if_pos h9]
  · rw [if_neg (by omega), if_neg h9, show (1 : Int32) = Int32.ofNat 1 from rfl, cp_sb (by omega)]
theorem dm_ce_m1 : dm_ce (-1) = -1 := rfl
theorem dm_cr_mo {n m : Nat} {c : Int32} (h : dm_cr n c) (hn : n ≤ m) : dm_cr m c := by
  obtain ⟨k, h1, h2, h3⟩ := h
  exact ⟨k, by omega, h2, h3⟩
/-- for each scope: its core, the variables that are bound in it -/
abbrev dm_Gs : Type := Nat → Nat × ct_G
/-- a scope of core g -/
def dm_sc (G : dm_Gs) (ne g : Nat) (o : Int32) : Prop := o = -1 ∨ ∃ s, s < ne ∧ o = Int32.ofNat s ∧ (G s).1 = g
/-- the variables bound in a scope -/
def dm_bs (G : dm_Gs) (ne : Nat) (o : Int32) : ct_G := fun x => ∃ s, s < ne ∧ o = Int32.ofNat s ∧ (G s).2 x
/-- a scope of core g in which all variables of a tree are bound -/
def dm_sx (G : dm_Gs) (ne g : Nat) (t : ct_T) (o : Int32) : Prop := dm_sc G ne g o ∧ ct_wf t ∧ ct_lx (dm_bs G ne o) t
theorem dm_sc_mo {G G2 : dm_Gs} {n m g : Nat} {o : Int32} (h : dm_sc G n g o) (hn : n ≤ m) (hG : ∀ s, s < n → G2 s = G s) : dm_sc G2 m g o := by
  rcases h with h | ⟨s, h1, h2, h3⟩
  · exact Or.inl h
  · exact Or.inr ⟨s, by omega, h2, by rw [hG s h1]; exact h3⟩
theorem dm_bs_mo {G G2 : dm_Gs} {n m : Nat} {o x : Int32} (h : dm_bs G n o x) (hn : n ≤ m) (hG : ∀ s, s < n → G2 s = G s) : dm_bs G2 m o x := by
  obtain ⟨s, h1, h2, h3⟩ := h
  exact ⟨s, by omega, h2, by rw [hG s h1]; exact h3⟩
theorem dm_sx_mo {G G2 : dm_Gs} {n m g : Nat} {t : ct_T} {o : Int32} (h : dm_sx G n g t o) (hn : n ≤ m) (hG : ∀ s, s < n → G2 s = G s) : dm_sx G2 m g t o :=
  ⟨dm_sc_mo h.1 hn hG, h.2.1, ct_lx_mono t h.2.1 _ _ (fun y hy => dm_bs_mo hy hn hG) h.2.2⟩
section DMsx
variable {G : dm_Gs} {ne g : Nat} {e : ct_D} {a b c : ct_T} {o : Int32}
theorem dm_sx_a (h : dm_sx G ne g (ct_nd e a b c) o) (hk : ¬ (e.1 = 4 ∨ e.1 = 7)) : dm_sx G ne g a o := by
  have hl := (dt_lx_nd h.2.1 h.2.2).1
  unfold dt_G1 at hl
  rw [if_neg hk] at hl
  exact ⟨h.1, (ct_wf_nd h.2.1).2.2.2.2.1, hl⟩
theorem dm_sx_b (h : dm_sx G ne g (ct_nd e a b c) o) (hk : ¬ (e.1 = 4 ∨ e.1 = 7) ∧ ¬ (e.1 = 6 ∨ e.1 = 8)) : dm_sx G ne g b o := by
  have hl := (dt_lx_nd h.2.1 h.2.2).2.1
  unfold dt_G2 at hl
  rw [if_neg hk.1, if_neg hk.2] at hl
  exact ⟨h.1, (ct_wf_nd h.2.1).2.2.2.2.2.1, hl⟩
theorem dm_sx_c (h : dm_sx G ne g (ct_nd e a b c) o) (hk : ¬ (e.1 = 4 ∨ e.1 = 7) ∧ ¬ (e.1 = 6 ∨ e.1 = 8) ∧ ¬ e.1 = 12) : dm_sx G ne g c o := by
  have hl := (dt_lx_nd h.2.1 h.2.2).2.2
  unfold dt_G3 at hl
  rw [if_neg hk.1, if_neg hk.2.1, if_neg hk.2.2] at hl
  exact ⟨h.1, (ct_wf_nd h.2.1).2.2.2.2.2.2, hl⟩
/-- parts that a new variable is bound in -/
theorem dm_la (h : dm_sx G ne g (ct_nd e a b c) o) (hk : e.1 = 4 ∨ e.1 = 7) : ct_wf a ∧ ct_lx (ct_ga (dm_bs G ne o) e.2.2.1) a := by
  have hl := (dt_lx_nd h.2.1 h.2.2).1
  unfold dt_G1 at hl
  rw [if_pos hk] at hl
  exact ⟨(ct_wf_nd h.2.1).2.2.2.2.1, hl⟩
theorem dm_lb (h : dm_sx G ne g (ct_nd e a b c) o) (hk : (e.1 = 4 ∨ e.1 = 7) ∨ (e.1 = 6 ∨ e.1 = 8)) : ct_wf b ∧ ct_lx (ct_ga (dm_bs G ne o) e.2.2.1) b := by
  have hl := (dt_lx_nd h.2.1 h.2.2).2.1
  unfold dt_G2 at hl
  refine ⟨(ct_wf_nd h.2.1).2.2.2.2.2.1, ?_⟩
  by_cases h4 : e.1 = 4 ∨ e.1 = 7
  · rw [if_pos h4] at hl; exact hl
  · rw [if_neg h4, if_pos (hk.resolve_left h4)] at hl; exact hl
theorem dm_lc (h : dm_sx G ne g (ct_nd e a b c) o) (hk : e.1 = 12) : ct_wf c ∧ ct_lx (ct_ga (ct_ga (dm_bs G ne o) e.2.2.1) e.2.2.2) c := by
  have hl := (dt_lx_nd h.2.1 h.2.2).2.2
  unfold dt_G3 at hl
  rw [if_neg (by rw [hk]; decide), if_neg (by rw [hk]; decide), if_pos hk] at hl
  exact ⟨(ct_wf_nd h.2.1).2.2.2.2.2.2, hl⟩
theorem dm_l2 (h : dm_sx G ne g (ct_nd e a b c) o) (hk : e.1 = 2) : dm_bs G ne o e.2.2.1 := by
  have hl := h.2.2
  rw [ct_lx_nd, if_pos hk] at hl
  exact hl
end DMsx
def dm_E (A S : cm_S) (V : Nat → ct_T) (G : dm_Gs) (ne nc : Nat) : Prop := ∀ s, s < ne → (dm_R V (G s).1 (A.1 69 s) (S.1 118 s) ∧ ∀ x, (G s).2 x → x = A.1 69 s ∨ dm_bs G s (A.1 71 s) x) ∧ S.1 119 s = dm_ce (A.1 70 s) ∧ dm_cr nc (A.1 70 s) ∧ S.1 120 s = A.1 71 s ∧ dm_sc G s (G s).1 (A.1 71 s)
/-- the cell that a variable is bound to -/
def dm_fd (A : cm_S) (x : Int32) : Nat → Int32 → Int32
  | 0, _ => -1
  | n + 1, o => if o = -1 then -1 else if A.1 69 o.toNatClampNeg = x then A.1 70 o.toNatClampNeg else dm_fd A x n (A.1 71 o.toNatClampNeg)
theorem dm_rl : cm_rl 65 = 8009 ∧ cm_rl 66 = 8009 ∧ cm_rl 67 = 8009 ∧ cm_rl 68 = 8009 ∧ cm_rl 69 = 8000 ∧ cm_rl 70 = 8000 ∧ cm_rl 71 = 8000 ∧ cm_rl 73 = 4064 ∧ cm_rl 74 = 4064 ∧ cm_rl 75 = 4064 ∧ cm_rl 76 = 4064 ∧ cm_rl 78 = 42 ∧ cm_rl 79 = 6 := by decide +kernel
theorem dm_fd_cr {A S : cm_S} {V : Nat → ct_T} {G : dm_Gs} {ne nc : Nat} {x : Int32} (hE : dm_E A S V G ne nc) (hne : ne ≤ 8000) : ∀ (n m : Nat) (o : Int32), n ≤ ne → n < m → dm_bs G n o x → dm_cr nc (dm_fd A x m o) := by
  intro n
  induction n using Nat.strongRecOn with
  | _ n ih =>
    intro m o hn hm h
    obtain ⟨m, rfl⟩ : ∃ k, m = k + 1 := ⟨m - 1, by omega⟩
    obtain ⟨s, h1, rfl, h3⟩ := h
    unfold dm_fd
    rw [if_neg (cp_m1 (by omega)), cp_cl (by omega)]
    obtain ⟨e1, e2, e3, e4, e5⟩ := hE s (by omega)
    by_cases hx : A.1 69 s = x
    · rw [if_pos hx]; exact e3
    · rw [if_neg hx]
      exact ih s h1 m _ (by omega) (by omega) ((e1.2 x h3).resolve_left (fun hc => hx hc.symm))
/-- what is found, if anything -/
theorem dm_fd_cw {A S : cm_S} {V : Nat → ct_T} {G : dm_Gs} {ne nc : Nat} {x : Int32} (hE : dm_E A S V G ne nc) (hne : ne ≤ 8000) : ∀ (n g : Nat) (o : Int32), dm_sc G ne g o → dm_fd A x n o = -1 ∨ dm_cr nc (dm_fd A x n o)
  | 0, _, _, _ => Or.inl rfl
  | n + 1, g, o, h => by
    unfold dm_fd
    by_cases ho : o = -1
    · rw [if_pos ho]; exact Or.inl rfl
    rcases h with h | ⟨s, h1, rfl, h3⟩
    · exact absurd h ho
    rw [if_neg ho, cp_cl (by omega)]
    obtain ⟨e1, e2, e3, e4, e5⟩ := hE s h1
    by_cases hx : A.1 69 s = x
    · rw [if_pos hx]; exact Or.inr e3
    · rw [if_neg hx]
      exact dm_fd_cw hE hne n (G s).1 _ (dm_sc_mo e5 (by omega) (fun _ _ => rfl))
theorem dm_fd_ne {A S : cm_S} {V : Nat → ct_T} {G : dm_Gs} {ne nc : Nat} {x : Int32} (hE : dm_E A S V G ne nc) (hne : ne ≤ 8000) : ∀ (n m g : Nat) (o : Int32), dm_sc G n g o → n ≤ ne → n < m → dm_fd A x m o = dm_fd A x (n + 1) o := by
  intro n
  induction n using Nat.strongRecOn with
  | _ n ih =>
    intro m g o h hn hm
    obtain ⟨m, rfl⟩ : ∃ k, m = k + 1 := ⟨m - 1, by omega⟩
    unfold dm_fd
    by_cases ho : o = -1
    · rw [if_pos ho, if_pos ho]
    rcases h with h | ⟨s, h1, rfl, h3⟩
    · exact absurd h ho
    rw [if_neg ho, if_neg ho, cp_cl (by omega)]
    by_cases hx : A.1 69 s = x
    · rw [if_pos hx, if_pos hx]
    · rw [if_neg hx, if_neg hx]
      obtain ⟨e1, e2, e3, e4, e5⟩ := hE s (by omega)
      rw [ih s h1 m (G s).1 _ e5 (by omega) (by omega), ih s h1 n (G s).1 _ e5 (by omega) h1]
section CPa18b
variable {L : Nat} {xs : Nat → Int32} {d : Nat} {A S : cm_S} {V : Nat → ct_T} {G : dm_Gs} {ne nc : Nat} {K : cm_K}
theorem dm_127l {x q2 : Int32} (hE : dm_E A S V G ne nc) (hne : ne ≤ 8000) : ∀ (n t g : Nat) (o : Int32) (K : cm_K), t + n = 8000 → dm_sc G ne g o → K (.inl (some (.int (dm_fd A x n o)))) A 0 →
    cm_At (am_XX L xs) (d + 2) 127 5 [some (.ref 64), some (.int x), some (.int q2), some (.int o), some (.int (Int32.ofNat t))] [] A K
  | 0, t, g, o, K, ht, h, k => by
    refine cx_127_5 _ _ _ _ ⟨fun h => absurd h (by rw [show (8000 : Int32) = Int32.ofNat 8000 from rfl, cp_lt (by omega) (by omega)]; omega), fun _ => k⟩
  | n + 1, t, g, o, K, ht, h, k => by
    unfold dm_fd at k
    refine cx_127_5 _ _ _ _ ⟨fun _ => ⟨fun ho => ?_, fun ho => ?_⟩, fun h => absurd (by rw [show (8000 : Int32) = Int32.ofNat 8000 from rfl, cp_lt (by omega) (by omega)]; omega) h⟩
    · rw [if_pos ho] at k; exact k
    · rw [if_neg ho] at k
      rcases h with h | ⟨s, h1, rfl, h3⟩
      · exact absurd h ho
      rw [cp_cl (by omega)] at k
      refine cp_166 (by decide) (cp_r1 ?_)
      rw [cp_g_at (by rw [dm_rl.2.2.2.2.1]; omega) (by decide +kernel)]
      refine ⟨fun hx => ?_, fun hx => ?_⟩
      · rw [if_pos hx] at k
        refine cp_166 (by decide) (cp_r1 ?_)
        rw [cp_g_at (by rw [dm_rl.2.2.2.2.2.1]; omega) (by decide +kernel)]
        exact k
      · rw [if_neg hx] at k
        refine cp_166 (by decide) (cp_r1 ?_)
        rw [cp_g_at (by rw [dm_rl.2.2.2.2.2.2.1]; omega) (by decide +kernel), show Int32.ofNat t + 1 = Int32.ofNat (t + 1) from cp_ad (b := 1)]
        simp only [dk_sh0]
        obtain ⟨e1, e2, e3, e4, e5⟩ := hE s h1
        exact dm_127l hE hne n (t + 1) (G s).1 _ K (by omega) (dm_sc_mo e5 (by omega) (fun _ _ => rfl)) k
theorem dm_127 {x o : Int32} {g : Nat} (hE : dm_E A S V G ne nc) (hne : ne ≤ 8000) (h : dm_sc G ne g o) (k : K (.inl (some (.int (dm_fd A x 8000 o)))) A 0) : cm_At (am_XX L xs) (d + 2) 127 0 [some (.ref 64), some (.int x), some (.int o), none, none] [] A K :=
  cx_127_0 _ _ (dm_127l hE hne 8000 0 g o K (by omega) h k)
theorem dm_251l {x y q2 : Int32} {g : Nat} (hV : ct_bi (dm_R V g)) (hxy : dm_R V g x y) (hE : dm_E A S V G ne nc) (hne : ne ≤ 8000) : ∀ (n : Nat) (o : Int32) (K : cm_K), dm_sc G n g o → n ≤ ne → K (.inl (some (.int (dm_ce (dm_fd A x (n + 1) o))))) S 0 →
    cm_At (am_XX L xs) (d + 1) 251 2 [some (.ref 83), some (.int y), some (.int q2), some (.int o)] [] S K := by
  intro n
  induction n using Nat.strongRecOn with
  | _ n ih =>
    intro o K h hn k
    unfold dm_fd at k
    refine cx_251_2 _ _ _ ⟨fun ho => ⟨fun _ => ?_, fun h => absurd ho h⟩, fun ho => ?_⟩
    · rw [if_pos ho] at k; exact k
    rw [if_neg ho] at k
    rcases h with h | ⟨s, h1, rfl, h3⟩
    · exact absurd h ho
    rw [cp_cl (by omega)] at k
    refine ⟨cp_in (by omega) (by decide), ?_⟩
    rw [cp_cl (by omega)]
    rintro _ rfl
    obtain ⟨e1, e2, e3, e4, e5⟩ := hE s (by omega)
    rw [h3] at e1 e5
    refine ⟨fun hy => ⟨fun h => absurd h ho, fun _ => ⟨cp_in (by omega) (by decide), ?_⟩⟩, fun hy => ⟨cp_in (by omega) (by decide), ?_⟩⟩
    · rintro _ rfl
      rw [hy] at e1
      rw [if_pos (hV.2 _ _ _ e1.1 hxy)] at k
      rw [e2]
      exact k
    · rintro _ rfl
      rw [if_neg (fun hx => hy (by rw [hx] at e1; exact hV.1 _ _ _ e1.1 hxy))] at k
      rw [e4]
      have hfe : dm_fd A x n (A.1 71 s) = dm_fd A x (s + 1) (A.1 71 s) := dm_fd_ne hE hne s n g _ e5 (by omega) h1
      rw [hfe] at k
      exact ih s h1 _ K e5 (by omega) k
theorem dm_251 {x y o : Int32} {g : Nat} (hV : ct_bi (dm_R V g)) (hxy : dm_R V g x y) (hE : dm_E A S V G ne nc) (hne : ne < 8000) (h : dm_sc G ne g o) (k : K (.inl (some (.int (dm_ce (dm_fd A x 8000 o))))) S 0) : cm_At (am_XX L xs) (d + 1) 251 0 [some (.ref 83), some (.int y), some (.int o), none] [] S K := by
  refine cx_251_0 _ _ (dm_251l hV hxy hE (by omega) ne o K h (Nat.le_refl _) ?_)
  rw [← dm_fd_ne hE (by omega) ne 8000 g o h (Nat.le_refl _) (by omega)]
  exact k
end CPa18b
