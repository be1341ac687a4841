/-! ## 93 what holds of a tree that a pass has gone through -/
def dt_good (D : dt_Dn) (n0 : Nat) : Prop := ∀ (n m : Nat) (G : ct_G) (e : ct_D) (a b c t2 : ct_T), n0 ≤ n → n < 2000000000 → dt_w (ct_nd e a b c) → dt_bd n (ct_nd e a b c) → dt_gc n G (ct_nd e a b c) → ct_lx G (ct_nd e a b c) → ct_sz a ≤ 150 → ct_sz b ≤ 150 → D n e a b c = some (t2, m) → dt_ok n m G (ct_nd e a b c) t2
/-- in either order -/
theorem dt_pa_in {D : dt_Dn} {o : Bool} {e : ct_D} {a b c t2 : ct_T} {n m k : Nat} (h : dt_pa D o (ct_nd e a b c) n = some (t2, m, k)) : ∃ (na nb nc ma mb mc ka kb kc q : Nat) (a2 b2 c2 : ct_T), dt_pa D o a na = some (a2, ma, ka) ∧ dt_pa D o b nb = some (b2, mb, kb) ∧ dt_pa D o c nc = some (c2, mc, kc) ∧ dt_fn D q e a2 b2 c2 (ka + kb + kc) = some (t2, m, k) ∧ ((o = false ∧ na = n ∧ nb = ma ∧ nc = mb ∧ q = mc) ∨ (o = true ∧ nc = n ∧ nb = mc ∧ na = mb ∧ q = ma)) := by
  cases o with
  | true =>
    rw [dt_pa_t] at h
    obtain ⟨⟨c2, mc, kc⟩, h1, h⟩ := Option.bind_eq_some_iff.mp h
    obtain ⟨⟨b2, mb, kb⟩, h2, h⟩ := Option.bind_eq_some_iff.mp h
    obtain ⟨⟨a2, ma, ka⟩, h3, h⟩ := Option.bind_eq_some_iff.mp h
    dsimp only at h1 h2 h3 h
    refine ⟨_, _, _, _, _, _, _, _, _, _, _, _, _, h3, h2, h1, ?_, Or.inr ⟨rfl, rfl, rfl, rfl, rfl⟩⟩
    rw [show ka + kb + kc = kc + kb + ka by omega]
    exact h
  | false =>
    rw [dt_pa_f] at h
    obtain ⟨⟨a2, ma, ka⟩, h1, h⟩ := Option.bind_eq_some_iff.mp h
    obtain ⟨⟨b2, mb, kb⟩, h2, h⟩ := Option.bind_eq_some_iff.mp h
    obtain ⟨⟨c2, mc, kc⟩, h3, h⟩ := Option.bind_eq_some_iff.mp h
    dsimp only at h1 h2 h3 h
    exact ⟨_, _, _, _, _, _, _, _, _, _, _, _, _, h1, h2, h3, h, Or.inl ⟨rfl, rfl, rfl, rfl, rfl⟩⟩
theorem dt_gc_nd {n : Nat} {G : ct_G} {e : ct_D} {a b c : ct_T} (hn : ct_nw e) (hbd : dt_bd n (ct_nd e a b c)) (hgc : dt_gc n G (ct_nd e a b c)) : dt_gc n (dt_G1 e G) a ∧ dt_gc n (dt_G2 e G) b ∧ dt_gc n (dt_G3 e G) c := by
  have key : ∀ y, (G y ∨ 0 < dt_oc y e) → dt_ct y a = 0 ∧ dt_ct y b = 0 ∧ dt_ct y c = 0 ∧ 0 ≤ y.toInt ∧ y.toInt < (n : Int) := fun y hy => by
    have h1 := dt_ct_nd (z := y) (e := e) (a := a) (b := b) (c := c)
    rcases hy with hy | hy
    · have h2 := hgc y hy
      exact ⟨by omega, by omega, by omega, h2.2⟩
    · have h2 := hbd.1 y
      have h3 := hbd.2 y (by omega)
      exact ⟨by omega, by omega, by omega, h3⟩
  refine ⟨fun y hy => ?_, fun y hy => ?_, fun y hy => ?_⟩
  · have := key y ((dt_Go hn).1 hy); exact ⟨this.1, this.2.2.2⟩
  · have := key y ((dt_Go hn).2.1 hy); exact ⟨this.2.1, this.2.2.2⟩
  · have := key y ((dt_Go hn).2.2 hy); exact ⟨this.2.2.1, this.2.2.2⟩
theorem dt_bd_nd {n : Nat} {e : ct_D} {a b c : ct_T} (hbd : dt_bd n (ct_nd e a b c)) : dt_bd n a ∧ dt_bd n b ∧ dt_bd n c := by
  have h1 := fun y => dt_ct_nd (z := y) (e := e) (a := a) (b := b) (c := c)
  refine ⟨⟨fun z => ?_, fun z hz => ?_⟩, ⟨fun z => ?_, fun z hz => ?_⟩, ⟨fun z => ?_, fun z hz => ?_⟩⟩
  · have := h1 z; have := hbd.1 z; omega
  · have := h1 z; exact hbd.2 z (by omega)
  · have := h1 z; have := hbd.1 z; omega
  · have := h1 z; exact hbd.2 z (by omega)
  · have := h1 z; have := hbd.1 z; omega
  · have := h1 z; exact hbd.2 z (by omega)
theorem dt_lx_nd {e : ct_D} {a b c : ct_T} {G : ct_G} (hw : ct_wf (ct_nd e a b c)) (h : ct_lx G (ct_nd e a b c)) : ct_lx (dt_G1 e G) a ∧ ct_lx (dt_G2 e G) b ∧ ct_lx (dt_G3 e G) c := by
  by_cases h2 : e.1 = 2
  · obtain ⟨rfl, rfl, rfl⟩ := ct_leafs hw h2
    exact ⟨trivial, trivial, trivial⟩
  · exact (dt_lx h2).mp h
/-- what a tree that a pass has gone through is -/
def dt_res (n m : Nat) (G : ct_G) (t t2 : ct_T) : Prop := n ≤ m ∧ m ≤ n + 150 * ct_sz t ∧ dt_w t2 ∧ (t2 = .leaf ↔ t = .leaf) ∧ (∀ z, dt_ct z t2 ≤ dt_ct z t + dt_i n m z) ∧ ct_lx G t2 ∧ ct_sz t2 ≤ 150
/-- its bounds -/
theorem dt_res_bd {n m : Nat} {G : ct_G} {t t2 : ct_T} (h : dt_res n m G t t2) (hbd : dt_bd n t) : dt_bd m t2 := by
  refine ⟨fun z => ?_, fun z hz => ?_⟩
  · have h1 := h.2.2.2.2.1 z
    have h2 := hbd.1 z
    have h3 := dt_i_le (n := n) (m := m) (z := z)
    by_cases hi : 0 < dt_i n m z
    · have h4 := dt_i_in hi
      have h5 : dt_ct z t = 0 := by
        by_cases hp : 0 < dt_ct z t
        · have := hbd.2 z hp; omega
        · omega
      omega
    · omega
  · have h1 := h.2.2.2.2.1 z
    by_cases hp : 0 < dt_ct z t
    · have := hbd.2 z hp
      have := h.1
      omega
    · have := dt_i_in (n := n) (m := m) (z := z) (by omega)
      omega
/-- the node with its parts done -/
theorem dt_pa_nd {o : Bool} {e : ct_D} {a b c : ct_T} {n : Nat} {G : ct_G} (hw : dt_w (ct_nd e a b c)) (hbd : dt_bd n (ct_nd e a b c)) (hgc : dt_gc n G (ct_nd e a b c)) (hl : ct_lx G (ct_nd e a b c)) {na nb nc ma mb mc q : Nat} {a2 b2 c2 : ct_T} (ra : dt_res na ma (dt_G1 e G) a a2) (rb : dt_res nb mb (dt_G2 e G) b b2) (rc : dt_res nc mc (dt_G3 e G) c c2) (ho : (o = false ∧ na = n ∧ nb = ma ∧ nc = mb ∧ q = mc) ∨ (o = true ∧ nc = n ∧ nb = mc ∧ na = mb ∧ q = ma)) :
    n ≤ q ∧ q ≤ n + 150 * (ct_sz a + (ct_sz b + ct_sz c)) ∧ dt_w (ct_nd e a2 b2 c2) ∧ (∀ z, dt_ct z (ct_nd e a2 b2 c2) ≤ dt_ct z (ct_nd e a b c) + dt_i n q z) ∧ ct_lx G (ct_nd e a2 b2 c2) ∧ dt_bd q (ct_nd e a2 b2 c2) ∧ dt_gc q G (ct_nd e a2 b2 c2) := by
  obtain ⟨a1, a2', a3, a4, a5, a6, a7⟩ := ra
  obtain ⟨b1, b2', b3, b4, b5, b6, b7⟩ := rb
  obtain ⟨c1, c2', c3, c4, c5, c6, c7⟩ := rc
  have hq : n ≤ q ∧ q ≤ n + 150 * (ct_sz a + (ct_sz b + ct_sz c)) := by rcases ho with ho | ho <;> omega
  have hz : ∀ z, dt_ct z (ct_nd e a2 b2 c2) ≤ dt_ct z (ct_nd e a b c) + dt_i n q z := fun z => by
    have h1 := a5 z
    have h2 := b5 z
    have h3 := c5 z
    rw [dt_ct_nd, dt_ct_nd]
    rcases ho with ⟨_, rfl, rfl, rfl, rfl⟩ | ⟨_, rfl, rfl, rfl, rfl⟩
    · have h4 := dt_i_add (n := na) (m := nb) (k := nc) (z := z) (by omega) (by omega)
      have h5 := dt_i_add (n := na) (m := nc) (k := q) (z := z) (by omega) (by omega)
      omega
    · have h4 := dt_i_add (n := nc) (m := nb) (k := na) (z := z) (by omega) (by omega)
      have h5 := dt_i_add (n := nc) (m := na) (k := q) (z := z) (by omega) (by omega)
      omega
  have hl2 : ct_lx G (ct_nd e a2 b2 c2) := by
    by_cases h2 : e.1 = 2
    · obtain ⟨rfl, rfl, rfl⟩ := ct_leafs hw.1 h2
      rw [a4.mpr rfl, b4.mpr rfl, c4.mpr rfl]
      exact hl
    · exact (dt_lx h2).mpr ⟨a6, b6, c6⟩
  refine ⟨hq.1, hq.2, dt_w_re hw a3 b3 c3 a4 b4 c4, hz, hl2, ⟨fun z => ?_, fun z hzp => ?_⟩, fun z hg => ?_⟩
  · have h1 := hz z
    have h2 := hbd.1 z
    by_cases hi : 0 < dt_i n q z
    · have h4 := dt_i_in hi
      have h5 : dt_ct z (ct_nd e a b c) = 0 := by
        by_cases hp : 0 < dt_ct z (ct_nd e a b c)
        · have := hbd.2 z hp; omega
        · omega
      have h3 := dt_i_le (n := n) (m := q) (z := z)
      omega
    · omega
  · have h1 := hz z
    by_cases hp : 0 < dt_ct z (ct_nd e a b c)
    · have := hbd.2 z hp; omega
    · have := dt_i_in (n := n) (m := q) (z := z) (by omega); omega
  · have h1 := hgc z hg
    have h2 := hz z
    have h3 := dt_i_no (n := n) (m := q) (z := z) h1.2.2
    omega
theorem dt_pa_ok {D : dt_Dn} {n0 : Nat} (hD : dt_good D n0) {o : Bool} : ∀ t, ct_wf t → ∀ (n : Nat) (G : ct_G) (t2 : ct_T) (m k : Nat), dt_w t → dt_bd n t → dt_gc n G t → ct_lx G t → n0 ≤ n → n + 150 * ct_sz t < 2000000000 → dt_pa D o t n = some (t2, m, k) → dt_res n m G t t2 :=
  ct_ind (fun n G t2 m k _ _ _ _ _ _ h => by
    rw [dt_pa_lf] at h
    cases h
    exact ⟨Nat.le_refl _, by omega, dt_w_lf, Iff.rfl, fun z => by omega, trivial, by show 0 ≤ 150; omega⟩) (fun e a b c hwf iha ihb ihc n G t2 m k hw hbd hgc hl hn0 hlt h => by
    obtain ⟨na, nb, nc, ma, mb, mc, ka, kb, kc, q, a2, b2, c2, h1, h2, h3, h4, ho⟩ := dt_pa_in h
    obtain ⟨p1, p2, pa, pb, pc⟩ := dt_w_nd hw
    obtain ⟨bda, bdb, bdc⟩ := dt_bd_nd hbd
    obtain ⟨gca, gcb, gcc⟩ := dt_gc_nd p1 hbd hgc
    obtain ⟨lxa, lxb, lxc⟩ := dt_lx_nd hwf hl
    rw [ct_sz_nd] at hlt
    have hsz := ct_sz_nd (e := e) (a := a) (b := b) (c := c)
    have rall : dt_res na ma (dt_G1 e G) a a2 ∧ dt_res nb mb (dt_G2 e G) b b2 ∧ dt_res nc mc (dt_G3 e G) c c2 := by
      rcases ho with ⟨_, rfl, rfl, rfl, rfl⟩ | ⟨_, rfl, rfl, rfl, rfl⟩
      · have ra := iha _ _ _ _ _ pa bda gca lxa hn0 (by omega) h1
        have ra1 := ra.1
        have ra2 := ra.2.1
        have rb := ihb _ _ _ _ _ pb (dt_bd_mo ra1 bdb) (dt_gc_mo ra1 gcb) lxb (by omega) (by omega) h2
        have rb1 := rb.1
        have rb2 := rb.2.1
        have rc := ihc _ _ _ _ _ pc (dt_bd_mo (Nat.le_trans ra1 rb1) bdc) (dt_gc_mo (Nat.le_trans ra1 rb1) gcc) lxc (by omega) (by omega) h3
        exact ⟨ra, rb, rc⟩
      · have rc := ihc _ _ _ _ _ pc bdc gcc lxc hn0 (by omega) h3
        have rc1 := rc.1
        have rc2 := rc.2.1
        have rb := ihb _ _ _ _ _ pb (dt_bd_mo rc1 bdb) (dt_gc_mo rc1 gcb) lxb (by omega) (by omega) h2
        have rb1 := rb.1
        have rb2 := rb.2.1
        have ra := iha _ _ _ _ _ pa (dt_bd_mo (Nat.le_trans rc1 rb1) bda) (dt_gc_mo (Nat.le_trans rc1 rb1) gca) lxa (by omega) (by omega) h1
        exact ⟨ra, rb, rc⟩
    obtain ⟨ra, rb, rc⟩ := rall
    obtain ⟨q1, q2, q3, q4, q5, q6, q7⟩ := dt_pa_nd hw hbd hgc hl ra rb rc ho
    unfold dt_fn at h4
    split at h4
    · split at h4
      · cases h4
        refine ⟨q1, by omega, q3, ⟨fun hc => absurd hc dt_ndl, fun hc => absurd hc dt_ndl⟩, q4, q5, ?_⟩
        rw [ct_sz_nd]; assumption
      · cases h4
    · next r hr =>
      split at h4
      · next hle =>
        cases h4
        obtain ⟨d1, d2, d3, d4, d5, d6⟩ := hD q r.2 G e a2 b2 c2 r.1 (by omega) (by omega) q3 q6 q7 q5 ra.2.2.2.2.2.2 rb.2.2.2.2.2.2 hr
        refine ⟨by omega, by omega, d3, ⟨fun hc => absurd hc d4, fun hc => absurd hc dt_ndl⟩, fun z => ?_, d6, hle⟩
        have h5 := d5 z
        have h6 := q4 z
        have h7 := dt_i_add (n := n) (m := q) (k := r.2) (z := z) q1 d1
        omega
      · cases h4)
