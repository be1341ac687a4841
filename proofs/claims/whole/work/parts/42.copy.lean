/-! ## 42 copies of trees, with variables of their own -/
def ct_fr (n : Nat) (B : List Int32) (x : Int32) : Int32 := if x ∈ B then Int32.ofNat (n + ct_ix x B) else x
def ct_nb1 (x : Int32) : Prop := x = -1 ∨ (0 ≤ x.toInt ∧ x.toInt < 32768)
/-- names are small -/
def ct_nb (t : ct_T) : Prop := ∀ e, e ∈ ct_fl t → ct_nb1 e.2.2.1 ∧ ct_nb1 e.2.2.2
theorem ct_nb_nd {e : ct_D} {a b c : ct_T} (h : ct_nb (ct_nd e a b c)) : (ct_nb1 e.2.2.1 ∧ ct_nb1 e.2.2.2) ∧ ct_nb a ∧ ct_nb b ∧ ct_nb c := by
  unfold ct_nb at h
  rw [ct_fl_nd] at h
  exact ⟨h e List.mem_cons_self, fun x hx => h x (List.mem_cons_of_mem _ (List.mem_append_left _ hx)), fun x hx => h x (List.mem_cons_of_mem _ (List.mem_append_right _ (List.mem_append_left _ hx))), fun x hx => h x (List.mem_cons_of_mem _ (List.mem_append_right _ (List.mem_append_right _ hx)))⟩
/-- a variable that is bound within B is bound ahead -/
def ct_pb (B P : List Int32) (l : List ct_D) : Prop := ∀ (i : Nat) (e : ct_D), l[i]? = some e → e.1 = 2 → e.2.2.1 ∈ B → e.2.2.1 ∈ P ++ ct_bl (l.take i)
theorem ct_pb_cons {B P : List Int32} {e : ct_D} {l : List ct_D} (h : ct_pb B P (e :: l)) : (e.1 = 2 → e.2.2.1 ∈ B → e.2.2.1 ∈ P) ∧ ct_pb B (P ++ ct_ob e) l := by
  refine ⟨fun h1 h2 => ?_, fun i e2 hi h1 h2 => ?_⟩
  · have h3 := h 0 e rfl h1 h2
    rw [List.take_zero] at h3
    rcases List.mem_append.mp h3 with h3 | h3
    · exact h3
    · cases h3
  · have h3 := h (i + 1) e2 (by rw [List.getElem?_cons_succ]; exact hi) h1 h2
    rw [List.take_succ_cons] at h3
    rw [List.append_assoc]
    exact h3
theorem ct_pb_app {B P : List Int32} {l l2 : List ct_D} (h : ct_pb B P (l ++ l2)) : ct_pb B P l ∧ ct_pb B (P ++ ct_bl l) l2 := by
  refine ⟨fun i e hi h1 h2 => ?_, fun i e hi h1 h2 => ?_⟩
  · have hlt := (List.getElem?_eq_some_iff.mp hi).1
    have h3 := h i e (by rw [List.getElem?_append, if_pos hlt]; exact hi) h1 h2
    rw [List.take_append_of_le_length (by omega)] at h3
    exact h3
  · have h3 := h (l.length + i) e (by rw [List.getElem?_append, if_neg (by omega), show l.length + i - l.length = i by omega]; exact hi) h1 h2
    rw [List.take_append, List.take_of_length_le (by omega), show l.length + i - l.length = i by omega, ct_bl_app] at h3
    rw [List.append_assoc]
    exact h3
/-- no stamp is of a later copying -/
def cl_cs (S : cm_S) (c : Nat) : Prop := S.1 83 23 = Int32.ofNat c ∧ ∀ j, j < 32768 → ∃ m, m ≤ c ∧ S.1 101 j = Int32.ofNat m
/-- which variables have been renamed in this copying -/
def cl_st (S : cm_S) (n : Nat) (P B : List Int32) : Prop := (∀ x, x ∈ P → S.1 101 x.toNatClampNeg = S.1 83 23 ∧ S.1 100 x.toNatClampNeg = Int32.ofNat (n + ct_ix x B)) ∧ (∀ x : Int32, 0 ≤ x.toInt → x.toInt < 32768 → ¬ x ∈ P → ¬ S.1 101 x.toNatClampNeg = S.1 83 23) ∧ ∃ c, c < 2147483648 ∧ cl_cs S c
def cW_cp (l : List Nat) (b j : Nat) : Bool := decide (92 ≤ b ∧ b ≤ 98 ∧ j ∈ l ∨ b = 83 ∧ (j = 17 ∨ j = 19 ∨ j = 20) ∨ b = 100 ∨ b = 101)
theorem cl_st_cf {W : Nat → Nat → Bool} {S S2 : cm_S} (hc : cf_W W S S2) {n : Nat} {P B : List Int32} (hd : (∀ j, W 100 j = false) ∧ (∀ j, W 101 j = false) ∧ W 83 23 = false) (h : cl_st S n P B) : cl_st S2 n P B := by
  refine ⟨fun x hx => ?_, fun x h1 h2 h3 => ?_, ?_⟩
  · rw [(hc _ _ (hd.1 _)).1, (hc _ _ (hd.2.1 _)).1, (hc _ _ hd.2.2).1]; exact h.1 x hx
  · rw [(hc _ _ (hd.2.1 _)).1, (hc _ _ hd.2.2).1]; exact h.2.1 x h1 h2 h3
  · obtain ⟨c, h1, h2, h3⟩ := h.2.2
    exact ⟨c, h1, by rw [(hc _ _ hd.2.2).1]; exact h2, fun j hj => by rw [(hc _ _ (hd.2.1 _)).1]; exact h3 j hj⟩
theorem cp_nc {x y : Int32} (hx : 0 ≤ x.toInt) (hy : 0 ≤ y.toInt) (h : x.toNatClampNeg = y.toNatClampNeg) : x = y := by
  obtain ⟨i, rfl, h1, h2⟩ := cp_of hx
  obtain ⟨j, rfl, h3, h4⟩ := cp_of hy
  rw [cp_cl h2, cp_cl h4] at h
  rw [h]
def cW_rn (b j : Nat) : Bool := decide (b = 83 ∧ j = 20 ∨ b = 100 ∨ b = 101)
section CP42
variable {L : Nat} {xs : Nat → Int32} {d : Nat}
theorem cp_200 {S : cm_S} {K : cm_K} {n : Nat} {P B R : List Int32} {x : Int32} (hB : B = P ++ (x :: R)) (hnd : B.Nodup) (hx : 0 ≤ x.toInt ∧ x.toInt < 32768) (hP : ∀ y, y ∈ P → 0 ≤ y.toInt) (hn : n + B.length ≤ 32768) (hv : S.1 83 20 = Int32.ofNat (n + P.length)) (hst : cl_st S n P B)
    (k : ∀ S2, S2.1 83 20 = Int32.ofNat (n + (P ++ [x]).length) → cl_st S2 n (P ++ [x]) B → cf_W cW_rn S S2 → K (.inl (some (.int (ct_fr n B x)))) S2 0) :
    cm_At (am_XX L xs) (d + 2) 200 0 [some (.ref 83), some (.int x)] [] S K := by
  obtain ⟨i, rfl, hi1, hi2⟩ := cp_of hx.1
  have hlen : P.length < B.length := by rw [hB, List.length_append, List.length_cons]; omega
  have hxP : ¬ Int32.ofNat i ∈ P := by
    rw [hB, List.nodup_append] at hnd
    exact fun hc => hnd.2.2 _ hc _ List.mem_cons_self rfl
  have hix : ct_ix (Int32.ofNat i) B = P.length := by rw [hB, ct_ix_no hxP, ct_ix_cons, if_pos rfl]; rfl
  have hin : am_in (Int32.ofNat i) 32768 := cp_in (by omega) (by decide)
  refine cx_200_0 _ ⟨fun h => absurd h (cp_m1 hi2), fun _ => ?_⟩
  refine cx_195_0 ?_
  rintro _ rfl
  rintro _ rfl
  rintro _ rfl
  rw [cp_wI1, if_pos ⟨rfl, rfl⟩, hv, show Int32.ofNat (n + P.length) + 1 = Int32.ofNat (n + P.length + 1) from cp_ad (b := 1), cp_s1]
  refine cp_r1 ?_
  refine ⟨hin, ?_⟩
  rw [cp_cl hi2]
  rintro _ rfl
  rintro _ rfl
  refine ⟨hin, ?_⟩
  rintro _ rfl
  refine ⟨hin, ?_⟩
  rintro _ rfl
  rw [cp_wI1, if_neg (by omega), cp_wI1, if_pos ⟨rfl, rfl⟩, cp_wI1, if_neg (by omega), cp_wI1, if_neg (by omega)]
  have hf : ct_fr n B (Int32.ofNat i) = Int32.ofNat (n + P.length) := by
    unfold ct_fr
    rw [if_pos (by rw [hB]; exact List.mem_append_right _ List.mem_cons_self), hix]
  rw [← hf]
  refine k _ ?_ ⟨fun y hy => ?_, fun y h1 h2 h3 => ?_, ?_⟩ ?_
  · simp [cp_wI1]
    rw [Int32.add_assoc]
  · by_cases hyi : y = Int32.ofNat i
    · subst hyi
      rw [cp_cl hi2]
      simp only [cp_wI1]
      rw [hix, hf]
      simp
    · have hyP : y ∈ P := by
        rcases List.mem_append.mp hy with hy | hy
        · exact hy
        · rw [List.mem_singleton] at hy; exact absurd hy hyi
      have hne : ¬ y.toNatClampNeg = i := fun hc => hyi (cp_nc (hP y hyP) (by rw [cp_tI hi2]; omega) (by rw [cp_cl hi2]; exact hc))
      have := hst.1 y hyP
      simp only [cp_wI1]
      simp [hne, this.1, this.2]
  · have hyP : ¬ y ∈ P := fun hc => h3 (List.mem_append_left _ hc)
    have hyi : ¬ y = Int32.ofNat i := fun hc => h3 (List.mem_append_right _ (by rw [List.mem_singleton]; exact hc))
    have hne : ¬ y.toNatClampNeg = i := fun hc => hyi (cp_nc h1 (by rw [cp_tI hi2]; omega) (by rw [cp_cl hi2]; exact hc))
    have := hst.2.1 y h1 h2 hyP
    simp only [cp_wI1]
    simp [hne]
    exact this
  · obtain ⟨c, h1, h2, h3⟩ := hst.2.2
    refine ⟨c, h1, by simp [cp_wI1, h2], fun j hj => ?_⟩
    by_cases hji : j = i
    · exact ⟨c, Nat.le_refl _, by simp [cp_wI1, hji, h2]⟩
    · obtain ⟨m, m1, m2⟩ := h3 j hj
      exact ⟨m, m1, by simp [cp_wI1, hji, m2]⟩
  · intro b j hb
    have hb := of_decide_eq_false hb
    simp only [cp_wI1, cp_wI2]
    exact ⟨by repeat rw [if_neg (by omega)], trivial⟩
end CP42
