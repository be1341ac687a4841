/-! ## 40 the model's pool: trees by links, what is free -/
/-- a tree at a place of the pool, with the nodes that it takes -/
def cl_t (S : cm_S) : ct_T → Int32 → List Nat → Prop
  | .inner _ e _ a (.inner _ _ _ b c), p, fp => ∃ (i : Nat) (fa fb fc : List Nat), p = Int32.ofNat i ∧ i < 8192 ∧ (S.1 92 i, S.2 93 i, S.1 97 i, S.1 98 i) = e ∧ cl_t S a (S.1 94 i) fa ∧ cl_t S b (S.1 95 i) fb ∧ cl_t S c (S.1 96 i) fc ∧ fp = i :: (fa ++ (fb ++ fc))
  | _, p, fp => p = -1 ∧ fp = []
theorem cl_t_nd {S : cm_S} {e : ct_D} {a b c : ct_T} {p : Int32} {fp : List Nat} : cl_t S (ct_nd e a b c) p fp ↔ ∃ (i : Nat) (fa fb fc : List Nat), p = Int32.ofNat i ∧ i < 8192 ∧ (S.1 92 i, S.2 93 i, S.1 97 i, S.1 98 i) = e ∧ cl_t S a (S.1 94 i) fa ∧ cl_t S b (S.1 95 i) fb ∧ cl_t S c (S.1 96 i) fc ∧ fp = i :: (fa ++ (fb ++ fc)) := Iff.rfl
theorem cl_t_lf {S : cm_S} {p : Int32} {fp : List Nat} : cl_t S .leaf p fp ↔ p = -1 ∧ fp = [] := Iff.rfl
theorem cl_t_len {S : cm_S} : ∀ t, ct_wf t → ∀ p fp, cl_t S t p fp → fp.length = ct_sz t ∧ ∀ x, x ∈ fp → x < 8192 :=
  ct_ind (fun p fp h => by
    obtain ⟨_, rfl⟩ := h
    exact ⟨rfl, fun x hx => by cases hx⟩) (fun e a b c hw iha ihb ihc p fp h => by
    obtain ⟨i, fa, fb, fc, h1, h2, h3, h4, h5, h6, rfl⟩ := h
    have ja := iha _ _ h4
    have jb := ihb _ _ h5
    have jc := ihc _ _ h6
    refine ⟨?_, fun x hx => ?_⟩
    · rw [List.length_cons, List.length_append, List.length_append, ja.1, jb.1, jc.1, ct_sz_nd]; omega
    · rcases List.mem_cons.mp hx with rfl | hx
      · exact h2
      · rcases List.mem_append.mp hx with hx | hx
        · exact ja.2 x hx
        · rcases List.mem_append.mp hx with hx | hx
          · exact jb.2 x hx
          · exact jc.2 x hx)
theorem cl_t_cf {W : Nat → Nat → Bool} {S S2 : cm_S} (hc : cf_W W S S2) : ∀ t, ct_wf t → ∀ p fp, (∀ b x, 92 ≤ b → b ≤ 98 → x ∈ fp → W b x = false) → cl_t S t p fp → cl_t S2 t p fp :=
  ct_ind (fun p fp _ h => h) (fun e a b c hw iha ihb ihc p fp hd h => by
    obtain ⟨i, fa, fb, fc, h1, h2, h3, h4, h5, h6, rfl⟩ := h
    have hi : ∀ b, 92 ≤ b → b ≤ 98 → S2.1 b i = S.1 b i ∧ S2.2 b i = S.2 b i := fun b q1 q2 => hc b i (hd b i q1 q2 List.mem_cons_self)
    refine ⟨i, fa, fb, fc, h1, h2, ?_, ?_, ?_, ?_, rfl⟩
    · rw [(hi 92 (by omega) (by omega)).1, (hi 93 (by omega) (by omega)).2, (hi 97 (by omega) (by omega)).1, (hi 98 (by omega) (by omega)).1]; exact h3
    · rw [(hi 94 (by omega) (by omega)).1]
      exact iha _ _ (fun b x q1 q2 hx => hd b x q1 q2 (List.mem_cons_of_mem _ (List.mem_append_left _ hx))) h4
    · rw [(hi 95 (by omega) (by omega)).1]
      exact ihb _ _ (fun b x q1 q2 hx => hd b x q1 q2 (List.mem_cons_of_mem _ (List.mem_append_right _ (List.mem_append_left _ hx)))) h5
    · rw [(hi 96 (by omega) (by omega)).1]
      exact ihc _ _ (fun b x q1 q2 hx => hd b x q1 q2 (List.mem_cons_of_mem _ (List.mem_append_right _ (List.mem_append_right _ hx)))) h6)
/-- the free nodes: a stack of them, and the first never used -/
def cl_sp (S : cm_S) : List Nat → Prop
  | [] => True
  | x :: r => S.1 99 r.length = Int32.ofNat x ∧ cl_sp S r
theorem cl_sp_cf {W : Nat → Nat → Bool} {S S2 : cm_S} (hc : cf_W W S S2) : ∀ {l : List Nat}, (∀ j, j < l.length → W 99 j = false) → cl_sp S l → cl_sp S2 l
  | [], _, _ => trivial
  | x :: r, hd, h => ⟨by rw [(hc 99 r.length (hd _ (by rw [List.length_cons]; omega))).1]; exact h.1, cl_sp_cf hc (fun j hj => hd j (by rw [List.length_cons]; omega)) h.2⟩
def cl_al (S : cm_S) (sp : List Nat) (nx : Nat) : Prop := S.1 83 19 = Int32.ofNat sp.length ∧ S.1 83 17 = Int32.ofNat nx ∧ cl_sp S sp
def cl_ok (sp : List Nat) (nx : Nat) : Prop := sp.length ≤ 8192 ∧ nx ≤ 8192 ∧ ∀ x, x ∈ sp → x < 8192
theorem cl_al_cf {W : Nat → Nat → Bool} {S S2 : cm_S} (hc : cf_W W S S2) {sp : List Nat} {nx : Nat} (hd : (∀ j, W 99 j = false) ∧ W 83 17 = false ∧ W 83 19 = false) (h : cl_al S sp nx) : cl_al S2 sp nx :=
  ⟨by rw [(hc _ _ hd.2.2).1]; exact h.1, by rw [(hc _ _ hd.2.1).1]; exact h.2.1, cl_sp_cf hc (fun j _ => hd.1 j) h.2.2⟩
/-- n nodes taken: they, the stack then, the first never used then -/
def ct_tk : Nat → List Nat → Nat → List Nat × List Nat × Nat
  | 0, sp, nx => ([], sp, nx)
  | n + 1, x :: sp, nx => (x :: (ct_tk n sp nx).1, (ct_tk n sp nx).2)
  | n + 1, [], nx => (nx :: (ct_tk n [] (nx + 1)).1, (ct_tk n [] (nx + 1)).2)
theorem ct_tk_add {m : Nat} : ∀ {n : Nat} {sp : List Nat} {nx : Nat}, ct_tk (n + m) sp nx = ((ct_tk n sp nx).1 ++ (ct_tk m (ct_tk n sp nx).2.1 (ct_tk n sp nx).2.2).1, (ct_tk m (ct_tk n sp nx).2.1 (ct_tk n sp nx).2.2).2)
  | 0, sp, nx => by rw [Nat.zero_add]; rfl
  | n + 1, x :: sp, nx => by
    rw [show n + 1 + m = (n + m) + 1 by omega]
    show (x :: (ct_tk (n + m) sp nx).1, (ct_tk (n + m) sp nx).2) = _
    rw [ct_tk_add (n := n)]
    rfl
  | n + 1, [], nx => by
    rw [show n + 1 + m = (n + m) + 1 by omega]
    show (nx :: (ct_tk (n + m) [] (nx + 1)).1, (ct_tk (n + m) [] (nx + 1)).2) = _
    rw [ct_tk_add (n := n)]
    rfl
theorem ct_tk_sp : ∀ {n : Nat} {sp : List Nat} {nx : Nat}, (ct_tk n sp nx).2.1 = sp.drop n ∧ (ct_tk n sp nx).2.2 = nx + (n - sp.length) ∧ (∀ x, x ∈ (ct_tk n sp nx).1 ↔ x ∈ sp.take n ∨ (nx ≤ x ∧ x < nx + (n - sp.length))) ∧ (ct_tk n sp nx).1.length = n
  | 0, sp, nx => by
    refine ⟨rfl, by show nx = nx + (0 - sp.length); omega, fun x => ⟨fun h => (by cases h), fun h => ?_⟩, rfl⟩
    rcases h with h | h
    · rw [List.take_zero] at h; cases h
    · omega
  | n + 1, x :: sp, nx => by
    obtain ⟨h1, h2, h3, h4⟩ := ct_tk_sp (n := n) (sp := sp) (nx := nx)
    refine ⟨h1, ?_, fun y => ?_, ?_⟩
    · show (ct_tk n sp nx).2.2 = nx + (n + 1 - (sp.length + 1))
      rw [h2]; omega
    · show y ∈ x :: (ct_tk n sp nx).1 ↔ y ∈ x :: sp.take n ∨ (nx ≤ y ∧ y < nx + (n + 1 - (sp.length + 1)))
      rw [List.mem_cons, List.mem_cons, h3, show n + 1 - (sp.length + 1) = n - sp.length by omega]
      constructor
      · rintro (h | h | h)
        · exact Or.inl (Or.inl h)
        · exact Or.inl (Or.inr h)
        · exact Or.inr h
      · rintro ((h | h) | h)
        · exact Or.inl h
        · exact Or.inr (Or.inl h)
        · exact Or.inr (Or.inr h)
    · show (ct_tk n sp nx).1.length + 1 = n + 1
      rw [h4]
  | n + 1, [], nx => by
    obtain ⟨h1, h2, h3, h4⟩ := ct_tk_sp (n := n) (sp := []) (nx := nx + 1)
    refine ⟨by show (ct_tk n [] (nx + 1)).2.1 = []; rw [h1]; exact List.drop_nil, ?_, fun y => ?_, ?_⟩
    · show (ct_tk n [] (nx + 1)).2.2 = nx + (n + 1 - 0)
      rw [h2, List.length_nil]; omega
    · show y ∈ nx :: (ct_tk n [] (nx + 1)).1 ↔ _
      rw [List.mem_cons, h3]
      simp only [List.take_nil, List.not_mem_nil, false_or, List.length_nil]
      omega
    · show (ct_tk n [] (nx + 1)).1.length + 1 = n + 1
      rw [h4]
theorem ct_tk_nd : ∀ {n : Nat} {sp : List Nat} {nx : Nat}, sp.Nodup → (∀ x, x ∈ sp → x < nx) → (ct_tk n sp nx).1.Nodup
  | 0, sp, nx, _, _ => List.nodup_nil
  | n + 1, x :: sp, nx, h, h2 => by
    rw [List.nodup_cons] at h
    show (x :: (ct_tk n sp nx).1).Nodup
    rw [List.nodup_cons]
    refine ⟨fun hc => ?_, ct_tk_nd h.2 (fun y hy => h2 y (List.mem_cons_of_mem _ hy))⟩
    rcases (ct_tk_sp.2.2.1 x).mp hc with hc | hc
    · exact h.1 (List.mem_of_mem_take hc)
    · have := h2 x List.mem_cons_self; omega
  | n + 1, [], nx, h, h2 => by
    show (nx :: (ct_tk n [] (nx + 1)).1).Nodup
    rw [List.nodup_cons]
    refine ⟨fun hc => ?_, ct_tk_nd List.nodup_nil (fun y hy => by cases hy)⟩
    rcases (ct_tk_sp.2.2.1 nx).mp hc with hc | hc
    · rw [List.take_nil] at hc; cases hc
    · omega
def cW_nd (i b j : Nat) : Bool := decide (92 ≤ b ∧ b ≤ 98 ∧ j = i ∨ b = 83 ∧ (j = 17 ∨ j = 19))
section CP40
variable {L : Nat} {xs : Nat → Int32} {d : Nat} {S : cm_S} {K : cm_K} {p : Int32}
theorem cp_193 {sp : List Nat} {nx : Nat} (hal : cl_al S sp nx) (hok : cl_ok sp nx) (hne : sp = [] → nx < 8192)
    (k : ∀ S2 i, (ct_tk 1 sp nx).1 = [i] → i < 8192 → cl_al S2 (ct_tk 1 sp nx).2.1 (ct_tk 1 sp nx).2.2 → cf_W (cW_nd i) S S2 → S2.1 92 i = p ∧ S2.2 93 i = 0 ∧ S2.1 94 i = -1 ∧ S2.1 95 i = -1 ∧ S2.1 96 i = -1 ∧ S2.1 97 i = -1 ∧ S2.1 98 i = -1 → K (.inl (some (.int (Int32.ofNat i)))) S2 0) :
    cm_At (am_XX L xs) (d + 1) 193 0 [some (.ref 83), some (.int p), none] [] S K := by
  obtain ⟨o1, o2, o3⟩ := hok
  refine cx_193_0 p ?_
  rintro _ rfl
  rw [hal.1]
  rcases sp with _ | ⟨x, sp⟩
  · have hn := hne rfl
    refine ⟨fun h => absurd h (by decide), fun _ => ?_⟩
    rintro _ rfl
    rw [hal.2.1]
    rintro _ rfl
    rintro _ rfl
    refine ⟨fun h => absurd h (by decide), fun _ => ?_⟩
    rintro _ rfl
    rintro _ rfl
    rintro _ rfl
    rw [cp_wI1, if_neg (by omega), hal.1]
    refine ⟨fun h => absurd h (by decide), fun _ => ?_⟩
    rintro _ rfl
    refine ⟨cp_in hn (by decide), ?_⟩; rintro _ rfl
    refine ⟨cp_in hn (by decide), ?_⟩; rintro _ rfl
    refine ⟨cp_in hn (by decide), ?_⟩; rintro _ rfl
    refine ⟨cp_in hn (by decide), ?_⟩; rintro _ rfl
    refine ⟨cp_in hn (by decide), ?_⟩; rintro _ rfl
    refine ⟨cp_in hn (by decide), ?_⟩; rintro _ rfl
    refine ⟨cp_in hn (by decide), ?_⟩; rintro _ rfl
    rw [cp_cl (by omega)]
    refine k _ nx rfl hn ⟨?_, ?_, trivial⟩ ?_ ?_
    · show _ = Int32.ofNat 0
      simp [cp_wI1, cp_wJ1]
    · show _ = Int32.ofNat (nx + 1)
      simp [cp_wI1, cp_wJ1]
    · intro b j hb
      have hb := of_decide_eq_false hb
      simp only [cp_wI1, cp_wJ1, cp_wI2, cp_wJ2]
      exact ⟨by repeat rw [if_neg (by omega)], by rw [if_neg (by omega)]⟩
    · simp [cp_wI1, cp_wJ1, cp_wI2, cp_wJ2]
  · have hx := o3 x List.mem_cons_self
    rw [List.length_cons] at o1 ⊢
    refine ⟨fun _ => ?_, fun h => absurd (by rw [show (0 : Int32) = Int32.ofNat 0 from rfl, cp_lt (by omega) (by omega)]; omega) h⟩
    rintro _ rfl
    rw [cp_s1, cp_cl (by omega)]
    refine ⟨cp_in (by omega) (by decide), ?_⟩
    rintro _ rfl
    rw [hal.2.2.1]
    rintro _ rfl
    rw [hal.2.1]
    rintro _ rfl
    refine ⟨fun _ => ?_, fun h => absurd (by rw [show (0 : Int32) = Int32.ofNat 0 from rfl, cp_lt (by omega) (by omega)]; omega) h⟩
    rintro _ rfl
    rintro _ rfl
    rintro _ rfl
    rw [cp_wI1, if_neg (by omega), hal.1, List.length_cons, cp_s1]
    refine ⟨fun _ => ?_, fun h => absurd (by rw [show (0 : Int32) = Int32.ofNat 0 from rfl, cp_lt (by omega) (by omega)]; omega) h⟩
    rintro _ rfl
    refine ⟨cp_in hx (by decide), ?_⟩; rintro _ rfl
    refine ⟨cp_in hx (by decide), ?_⟩; rintro _ rfl
    refine ⟨cp_in hx (by decide), ?_⟩; rintro _ rfl
    refine ⟨cp_in hx (by decide), ?_⟩; rintro _ rfl
    refine ⟨cp_in hx (by decide), ?_⟩; rintro _ rfl
    refine ⟨cp_in hx (by decide), ?_⟩; rintro _ rfl
    refine ⟨cp_in hx (by decide), ?_⟩; rintro _ rfl
    rw [cp_cl (by omega)]
    have hcf : ∀ {S2 : cm_S}, S2 = cm_wI (cm_wI (cm_wI (cm_wI (cm_wI (cm_wJ (cm_wI (cm_wI (cm_wI S 83 17 (Int32.ofNat nx + 0)) 83 19 (Int32.ofNat sp.length)) 92 x p) 93 x 0) 94 x (-1)) 95 x (-1)) 96 x (-1)) 97 x (-1)) 98 x (-1) → cf_W (cW_nd x) S S2 := by
      rintro _ rfl b j hb
      have hb := of_decide_eq_false hb
      simp only [cp_wI1, cp_wJ1, cp_wI2, cp_wJ2]
      exact ⟨by repeat rw [if_neg (by omega)], by rw [if_neg (by omega)]⟩
    refine k _ x rfl hx ⟨?_, ?_, ?_⟩ (hcf rfl) ?_
    · show _ = Int32.ofNat sp.length
      simp [cp_wI1, cp_wJ1]
    · show _ = Int32.ofNat nx
      simp [cp_wI1, cp_wJ1]
    · exact cl_sp_cf (hcf rfl) (fun j _ => decide_eq_false (by omega)) hal.2.2.2
    · simp [cp_wI1, cp_wJ1, cp_wI2, cp_wJ2]
end CP40
