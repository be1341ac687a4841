/-! ## 99 Draft: nodes added, trees copied -/
/-- a draft: its nodes as far as there is room, the next variable -/
def dk_d (S : cm_S) (l : List ct_D) (n : Nat) : Prop := S.1 50 5 = Int32.ofNat l.length ∧ l.length < 100000 ∧ (l.length ≤ 150 → ck_f S 50 0 l ∧ S.1 50 6 = Int32.ofNat n)
def cW_dr (b j : Nat) : Bool := decide (51 ≤ b ∧ b ≤ 55 ∨ b = 50 ∧ (j = 5 ∨ j = 6))
theorem dk_cap : cm_cap 50 = 150 ∧ cm_cap 44 = 8192 ∧ cm_cap 27 = 1200 ∧ cm_cap 38 = 1200 := by decide +kernel
theorem dk_push {S : cm_S} {l : List ct_D} {n : Nat} {e : ct_D} (h : dk_d S l n) (hl : l.length + 1 < 100000) : dk_d (cm_wI (cp_putD S 50 (Int32.ofNat l.length) e) 50 5 (Int32.ofNat (l.length + 1))) (l ++ [e]) n ∧ cf_W cW_dr S (cm_wI (cp_putD S 50 (Int32.ofNat l.length) e) 50 5 (Int32.ofNat (l.length + 1))) := by
  have c1 : cf_W cW_dr S (cp_putD S 50 (Int32.ofNat l.length) e) := cp_putD_cf (fun b q1 q2 => decide_eq_true (by omega)) (by omega)
  refine ⟨⟨?_, ?_, fun hle => ⟨?_, ?_⟩⟩, cf_tr c1 (cf_wI (decide_eq_true (by omega)))⟩
  · rw [cp_wI1, if_pos ⟨rfl, rfl⟩, List.length_append, List.length_singleton]
  · rw [List.length_append, List.length_singleton]; exact hl
  · rw [List.length_append, List.length_singleton] at hle
    obtain ⟨h1, h2⟩ := h.2.2 (by omega)
    intro i x hi
    have hrow : cp_row (cm_wI (cp_putD S 50 (Int32.ofNat l.length) e) 50 5 (Int32.ofNat (l.length + 1))) 50 (0 + i) = cp_row (cp_putD S 50 (Int32.ofNat l.length) e) 50 i := by
      unfold cp_row
      rw [Nat.zero_add, cp_wI1, if_neg (by omega), cp_wI1, if_neg (by omega), cp_wI1, if_neg (by omega)]
      rfl
    rw [hrow, cp_putD_row (by rw [dk_cap.1]; omega) (by omega)]
    rcases ct_get_ap2 hi with ⟨hlt, hg⟩ | ⟨heq, hx⟩
    · rw [if_neg (by omega)]
      have := h1 i x hg
      rw [Nat.zero_add] at this
      exact this
    · rw [if_pos heq, hx]
  · rw [List.length_append, List.length_singleton] at hle
    obtain ⟨h1, h2⟩ := h.2.2 (by omega)
    rw [cp_wI1, if_neg (by omega), ← h2]
    unfold cp_putD
    rw [cp_put_at (by rw [dk_cap.1]; omega) (by omega)]
    simp [cp_wI1, cp_wJ1]
theorem dk_53 {S : cm_S} {l : List ct_D} {n : Nat} {e : ct_D} (h : dk_d S l n) : (cp_putD S 50 (Int32.ofNat l.length) e).1 50 5 = Int32.ofNat l.length := by
  refine Eq.trans ?_ h.1
  unfold cp_putD
  by_cases h2 : l.length < cm_cap 50
  · have := h.2.1
    rw [cp_put_at h2 (by omega)]
    simp [cp_wI1, cp_wJ1]
  · have := h.2.1
    unfold cp_put
    rw [cp_tI (by omega), if_neg (by omega)]
section CP99
variable {L : Nat} {xs : Nat → Int32} {d : Nat}
/-- a node without its parts -/
theorem cp_50 {S : cm_S} {K : cm_K} {l : List ct_D} {n : Nat} {kd v : Int32} {num : Int64} (h : dk_d S l n) (hl : l.length + 1 < 100000)
    (k : ∀ S2, dk_d S2 (l ++ [(kd, num, v, -1)]) n → cf_W cW_dr S S2 → K (.inl none) S2 0) :
    cm_At (am_XX L xs) (d + 2) 50 0 [some (.ref 50), some (.int kd), some (.int v), some (.long num), none] [] S K := by
  refine cx_50_0 _ _ _ ?_
  rintro _ rfl
  rw [h.1]
  refine cp_19 (by decide) (cp_r0 ?_)
  obtain ⟨p1, p2⟩ := dk_push (e := (kd, num, v, -1)) h hl
  have p3 := dk_53 (e := (kd, num, v, -1)) h
  unfold cp_putD at p1 p2 p3
  dsimp only at p1 p2 p3
  rintro _ rfl
  rintro _ rfl
  rw [p3, show Int32.ofNat l.length + 1 = Int32.ofNat (l.length + 1) from cp_ad (b := 1)]
  exact k _ p1 p2
/-- a node of a row without its parts -/
theorem cp_51 {S : cm_S} {K : cm_K} {l : List ct_D} {n c : Nat} {p : Int32} (hc : c ∈ cm_codes) (h : dk_d S l n) (hl : l.length + 1 < 100000)
    (k : ∀ S2, dk_d S2 (l ++ [cp_gr S c p]) n → cf_W cW_dr S S2 → K (.inl none) S2 0) :
    cm_At (am_XX L xs) (d + 3) 51 0 [some (.ref 50), some (.ref c), some (.int p)] [] S K := by
  refine cx_51_0 hc _ ?_
  rintro _ rfl
  rw [h.1]
  refine cp_20 (by decide) hc (cp_r0 ?_)
  obtain ⟨p1, p2⟩ := dk_push (e := cp_gr S c p) h hl
  have p3 := dk_53 (e := cp_gr S c p) h
  rintro _ rfl
  rintro _ rfl
  rw [p3, show Int32.ofNat l.length + 1 = Int32.ofNat (l.length + 1) from cp_ad (b := 1)]
  exact k _ p1 p2
theorem cp_52l {c : Nat} (hc : c = 44 ∨ c = 27) {q2 : Int32} {n : Nat} : ∀ (l2 : List ct_D) (r : Nat) (l : List ct_D) (S : cm_S) (K : cm_K), dk_d S l n → ck_f S c r l2 → r + l2.length ≤ cm_cap c → l.length + l2.length < 100000 →
    (∀ S2, dk_d S2 (l ++ l2) n → cf_W cW_dr S S2 → K (.inl none) S2 0) →
    cm_At (am_XX L xs) (d + 3) 52 9 [some (.ref 50), some (.ref c), some (.int q2), some (.int (Int32.ofNat (r + l2.length))), some (.int (Int32.ofNat r))] [] S K
  | [], r, l, S, K, h, hf, hr, hl, k => by
    have hcc : c ∈ cm_codes := by rcases hc with rfl | rfl <;> decide
    have gc := (cp_aI hcc).2.2
    refine cx_52_9 hcc _ _ _ ⟨fun h => absurd h ?_, fun _ => k S (by rw [List.append_nil]; exact h) cf_rfl⟩
    rw [List.length_nil] at hr ⊢
    rw [cp_lt (by omega) (by omega)]; omega
  | e :: l2, r, l, S, K, h, hf, hr, hl, k => by
    have hcc : c ∈ cm_codes := by rcases hc with rfl | rfl <;> decide
    have gc := (cp_aI hcc).2.2
    rw [List.length_cons] at hr hl ⊢
    rw [ck_f_cons] at hf
    refine cx_52_9 hcc _ _ _ ⟨fun _ => ?_, fun h => absurd ?_ h⟩
    · rintro _ rfl
      rw [h.1]
      refine cp_20 (by decide) hcc (cp_r0 ?_)
      rw [cp_gr_at hcc (by omega), hf.1]
      obtain ⟨p1, p2⟩ := dk_push (e := e) h (by omega)
      have p3 := dk_53 (e := e) h
      rintro _ rfl
      rintro _ rfl
      rw [p3, show Int32.ofNat l.length + 1 = Int32.ofNat (l.length + 1) from cp_ad (b := 1), show Int32.ofNat r + 1 = Int32.ofNat (r + 1) from cp_ad (b := 1), show r + (l2.length + 1) = r + 1 + l2.length by omega]
      refine cp_shz (cp_52l hc l2 (r + 1) (l ++ [e]) _ K p1 (ck_f_cf p2 (fun b j q1 q2 _ _ => decide_eq_false (by rcases hc with rfl | rfl <;> omega)) hf.2) (by omega) (by rw [List.length_append, List.length_singleton]; omega) (fun S2 d2 c2 => k S2 (by rw [List.append_assoc] at d2; exact d2) (cf_tr p2 c2)))
    · rw [cp_lt (by omega) (by omega)]; omega
/-- a tree -/
theorem cp_52 {c : Nat} (hc : c = 44 ∨ c = 27) {S : cm_S} {K : cm_K} {l : List ct_D} {n r : Nat} {t : ct_T} (h : dk_d S l n) (hw : ct_wf t) (hn : ¬ t = .leaf) (ht : ck_t S c r t) (hl : l.length + ct_sz t < 100000)
    (k : ∀ S2, dk_d S2 (l ++ ct_fl t) n → cf_W cW_dr S S2 → K (.inl none) S2 0) :
    cm_At (am_XX L xs) (d + 3) 52 0 [some (.ref 50), some (.ref c), some (.int (Int32.ofNat r)), none, none] [] S K := by
  have hcc : c ∈ cm_codes := by rcases hc with rfl | rfl <;> decide
  refine cx_52_0 hcc _ ?_
  refine cp_13t hcc ht hw hn (cp_r1 ?_)
  have h2 := cp_52l (L := L) (xs := xs) (d := d) hc (q2 := Int32.ofNat r) (n := n) (ct_fl t) r l S K h ht.1 (by rw [ct_fl_len]; exact ht.2.2) (by rw [ct_fl_len]; exact hl) k
  rw [ct_fl_len] at h2
  exact cp_shz h2
/-! ### variables of its own -/
def dt_r1 (x y : Int32) (e : ct_D) : ct_D := (e.1, e.2.1, if e.2.2.1 = x then y else e.2.2.1, if e.2.2.2 = x then y else e.2.2.2)
def cW_nm (b _j : Nat) : Bool := decide (b = 52 ∨ b = 53)
theorem dk_rl : cm_rl 52 = 150 ∧ cm_rl 53 = 150 := by decide +kernel
/-- names in rows, in a row that may end -/
theorem cp_24 {x y : Int32} {q1 : Int32} {en : Nat} (hen : en < 100000) : ∀ (m r : Nat) (S : cm_S) (K : cm_K), r + m = en →
    (∀ S2, cf_W cW_nm S S2 → (∀ i, i < 150 → cp_row S2 50 i = if r ≤ i ∧ i < en then dt_r1 x y (cp_row S 50 i) else cp_row S 50 i) → K (.inl none) S2 0) →
    cm_At (am_XX L xs) (d + 2) 24 3 [some (.ref 50), some (.int q1), some (.int (Int32.ofNat en)), some (.int x), some (.int y), some (.int (Int32.ofNat r))] [] S K := by
  intro m
  induction m with
  | zero =>
    intro r S K hr k
    refine cx_24_3 (by decide) _ _ _ _ _ ⟨fun h => absurd h ?_, fun _ => k S cf_rfl (fun i hi => by rw [if_neg (by omega)])⟩
    rw [cp_lt (by omega) (by omega)]; omega
  | succ m ih =>
    intro r S K hr k
    have next : ∀ (S1 : cm_S), cf_W cW_nm S S1 → (∀ i, i < 150 → cp_row S1 50 i = if i = r then dt_r1 x y (cp_row S 50 i) else cp_row S 50 i) → cm_At (am_XX L xs) (d + 2) 24 3 [some (.ref 50), some (.int q1), some (.int (Int32.ofNat en)), some (.int x), some (.int y), some (.int (Int32.ofNat r + 1))] [] S1 K := by
      intro S1 c1 h1
      rw [show Int32.ofNat r + 1 = Int32.ofNat (r + 1) from cp_ad (b := 1)]
      refine ih (r + 1) S1 K (by omega) (fun S2 c2 h2 => k S2 (cf_tr c1 c2) (fun i hi => ?_))
      rw [h2 i hi, h1 i hi]
      by_cases hir : i = r
      · rw [if_neg (by omega), if_pos hir, if_pos (by omega)]
      · rw [if_neg hir]
        by_cases hc : r + 1 ≤ i ∧ i < en
        · rw [if_pos hc, if_pos (by omega)]
        · rw [if_neg hc, if_neg (by omega)]
    refine cx_24_3 (by decide) _ _ _ _ _ ⟨fun _ => ?_, fun h => absurd ?_ h⟩
    · refine cp_9 (by decide) (cp_r1 ?_)
      by_cases hr150 : r < 150
      · rw [cp_g_at (by rw [dk_cap.1]; exact hr150) (by decide +kernel)]
        refine ⟨fun hx => ?_, fun hx => ?_⟩
        · refine cp_167 (by decide) (cp_r0 ?_)
          rw [cp_w_at (by rw [dk_rl.1]; exact hr150) (by decide +kernel)]
          refine cp_10 (by decide) (cp_r1 ?_)
          rw [cp_g_at (by rw [dk_cap.1]; exact hr150) (by decide +kernel), cp_wI1, if_neg (by omega)]
          refine ⟨fun hx2 => ?_, fun hx2 => ?_⟩
          · refine cp_167 (by decide) (cp_r0 ?_)
            rw [cp_w_at (by rw [dk_rl.2]; exact hr150) (by decide +kernel)]
            refine cp_shz (cp_shz (cp_shz (cp_shz (next _ (cf_tr (cf_wI (decide_eq_true (by omega))) (cf_wI (decide_eq_true (by omega)))) (fun i hi => ?_)))))
            unfold cp_row dt_r1
            by_cases hir : i = r
            · subst hir
              rw [if_pos rfl]
              dsimp only
              rw [if_pos hx, if_pos hx2]
              simp [cp_wI1, cp_wI2]
            · rw [if_neg hir]
              simp [cp_wI1, cp_wI2, hir]
          · refine cp_shz (cp_shz (cp_shz (next _ (cf_wI (decide_eq_true (by omega))) (fun i hi => ?_))))
            unfold cp_row dt_r1
            by_cases hir : i = r
            · subst hir
              rw [if_pos rfl]
              dsimp only
              rw [if_pos hx, if_neg hx2]
              simp [cp_wI1, cp_wI2]
            · rw [if_neg hir]
              simp [cp_wI1, cp_wI2, hir]
        · refine cp_10 (by decide) (cp_r1 ?_)
          rw [cp_g_at (by rw [dk_cap.1]; exact hr150) (by decide +kernel)]
          refine ⟨fun hx2 => ?_, fun hx2 => ?_⟩
          · refine cp_167 (by decide) (cp_r0 ?_)
            rw [cp_w_at (by rw [dk_rl.2]; exact hr150) (by decide +kernel)]
            refine cp_shz (cp_shz (cp_shz (next _ (cf_wI (decide_eq_true (by omega))) (fun i hi => ?_))))
            unfold cp_row dt_r1
            by_cases hir : i = r
            · subst hir
              rw [if_pos rfl]
              dsimp only
              rw [if_neg hx, if_pos hx2]
              simp [cp_wI1, cp_wI2]
            · rw [if_neg hir]
              simp [cp_wI1, cp_wI2, hir]
          · refine cp_shz (cp_shz (next _ cf_rfl (fun i hi => ?_)))
            by_cases hir : i = r
            · subst hir
              rw [if_pos rfl]
              unfold dt_r1 cp_row
              dsimp only
              rw [if_neg hx, if_neg hx2]
            · rw [if_neg hir]
      · -- beyond the room: nothing changes
        have out : ∀ {f : Nat → Int32}, cp_g (cm_cap 50) f (-1) (Int32.ofNat r) = -1 := cp_g_out (by rw [dk_cap.1]; omega) (by omega)
        have same : ∀ i, i < 150 → cp_row S 50 i = if i = r then dt_r1 x y (cp_row S 50 i) else cp_row S 50 i := fun i hi => by rw [if_neg (by omega)]
        rw [out]
        refine ⟨fun hx => ?_, fun hx => ?_⟩
        · refine cp_167 (by decide) (cp_r0 ?_)
          rw [cp_w_out (by rw [dk_rl.1]; omega) (by omega)]
          refine cp_10 (by decide) (cp_r1 ?_)
          rw [out]
          refine ⟨fun hx2 => ?_, fun hx2 => ?_⟩
          · refine cp_167 (by decide) (cp_r0 ?_)
            rw [cp_w_out (by rw [dk_rl.2]; omega) (by omega)]
            exact cp_shz (cp_shz (cp_shz (cp_shz (next S cf_rfl same))))
          · exact cp_shz (cp_shz (cp_shz (next S cf_rfl same)))
        · refine cp_10 (by decide) (cp_r1 ?_)
          rw [out]
          refine ⟨fun hx2 => ?_, fun hx2 => ?_⟩
          · refine cp_167 (by decide) (cp_r0 ?_)
            rw [cp_w_out (by rw [dk_rl.2]; omega) (by omega)]
            exact cp_shz (cp_shz (cp_shz (next S cf_rfl same)))
          · exact cp_shz (cp_shz (next S cf_rfl same))
    · rw [cp_lt (by omega) (by omega)]; omega
end CP99
