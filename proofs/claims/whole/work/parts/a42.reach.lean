/-! ## a42 what can still be reached: lists, on both sides -/
def dl_ad (L : List Nat) (c : Int32) : List Nat := if c = -1 then L else if c.toNatClampNeg ∈ L then L else L ++ [c.toNatClampNeg]
def dl_ads (L : List Nat) (l : List Int32) : List Nat := l.foldl dl_ad L
theorem dl_ads_nil {L : List Nat} : dl_ads L [] = L := rfl
theorem dl_ads_cons {L : List Nat} {c : Int32} {l : List Int32} : dl_ads L (c :: l) = dl_ads (dl_ad L c) l := rfl
theorem dl_ads_app {L : List Nat} {l m : List Int32} : dl_ads L (l ++ m) = dl_ads (dl_ads L l) m := List.foldl_append
/-- how many cells that were made are gone through -/
def dl_run (cs : Nat → List Int32) : Nat → Nat → List Nat → Nat → Nat
  | 0, _, _, acc => acc
  | n + 1, i, L, acc => match L[i]? with
    | none => acc
    | some m => dl_run cs n (i + 1) (dl_ads L (cs m)) (acc + if 9 ≤ m then 1 else 0)
/-- no cell twice, and only such as there are -/
def dl_ok (nc : Nat) (L : List Nat) : Prop := L.Nodup ∧ ∀ m, m ∈ L → m < nc ∧ ¬ m = 8
/-- cells that can be added -/
def dl_v (nc : Nat) (c : Int32) : Prop := c = -1 ∨ ∃ m, m < nc ∧ ¬ m = 8 ∧ c = Int32.ofNat m
theorem dl_len : ∀ (n : Nat) (L : List Nat), L.Nodup → (∀ m, m ∈ L → m < n) → L.length ≤ n
  | 0, L, _, h => by
    match L with
    | [] => exact Nat.le_refl _
    | x :: l => exact absurd (h x List.mem_cons_self) (Nat.not_lt_zero x)
  | n + 1, L, hn, h => by
    have h1 : (L.erase n).length ≤ n := dl_len n (L.erase n) (hn.erase n) (fun m hm => by
      have h2 := (List.Nodup.mem_erase_iff hn).mp hm
      have := h m h2.2
      have := h2.1
      omega)
    have h2 : L.length ≤ (L.erase n).length + 1 := by
      rw [List.length_erase]
      split <;> omega
    omega
theorem dl_ok_len {nc : Nat} {L : List Nat} (h : dl_ok nc L) : L.length ≤ nc := dl_len nc L h.1 (fun m hm => (h.2 m hm).1)
theorem dl_ad_ok {nc : Nat} {L : List Nat} {c : Int32} (h : dl_ok nc L) (hnc : nc ≤ 8009) (hc : dl_v nc c) : dl_ok nc (dl_ad L c) := by
  unfold dl_ad
  rcases hc with rfl | ⟨m, h1, h2, rfl⟩
  · rw [if_pos rfl]; exact h
  · rw [if_neg (cp_m1 (by omega)), cp_cl (by omega)]
    by_cases hm : m ∈ L
    · rw [if_pos hm]; exact h
    · rw [if_neg hm]
      refine ⟨?_, fun k hk => ?_⟩
      · rw [List.nodup_append]
        refine ⟨h.1, by simp, fun a ha b hb hab => ?_⟩
        rw [List.mem_singleton] at hb
        rw [hab, hb] at ha
        exact hm ha
      · rcases List.mem_append.mp hk with hk | hk
        · exact h.2 k hk
        · rw [List.mem_singleton] at hk
          rw [hk]; exact ⟨h1, h2⟩
theorem dl_ads_ok {nc : Nat} (hnc : nc ≤ 8009) : ∀ (l : List Int32) (L : List Nat), dl_ok nc L → (∀ c, c ∈ l → dl_v nc c) → dl_ok nc (dl_ads L l)
  | [], L, h, _ => h
  | c :: l, L, h, hl => dl_ads_ok hnc l (dl_ad L c) (dl_ad_ok h hnc (hl c List.mem_cons_self)) (fun d hd => hl d (List.mem_cons_of_mem _ hd))
/-- what has been added stays -/
theorem dl_ad_pre {L : List Nat} {c : Int32} : ∃ R, dl_ad L c = L ++ R := by
  unfold dl_ad
  split
  · exact ⟨[], (List.append_nil L).symm⟩
  · split
    · exact ⟨[], (List.append_nil L).symm⟩
    · exact ⟨_, rfl⟩
theorem dl_ads_pre : ∀ (l : List Int32) (L : List Nat), ∃ R, dl_ads L l = L ++ R
  | [], L => ⟨[], (List.append_nil L).symm⟩
  | c :: l, L => by
    obtain ⟨R1, h1⟩ := dl_ad_pre (L := L) (c := c)
    obtain ⟨R2, h2⟩ := dl_ads_pre l (dl_ad L c)
    exact ⟨R1 ++ R2, by rw [dl_ads_cons, h2, h1, List.append_assoc]⟩
theorem dl_ad_mem {L : List Nat} {c : Int32} : c = -1 ∨ c.toNatClampNeg ∈ dl_ad L c := by
  unfold dl_ad
  by_cases h : c = -1
  · exact Or.inl h
  · rw [if_neg h]
    refine Or.inr ?_
    by_cases h2 : c.toNatClampNeg ∈ L
    · rw [if_pos h2]; exact h2
    · rw [if_neg h2]; exact List.mem_append_right _ List.mem_cons_self
theorem dl_ads_mem : ∀ (l : List Int32) (L : List Nat) (c : Int32), c ∈ l → c = -1 ∨ c.toNatClampNeg ∈ dl_ads L l
  | d :: l, L, c, h => by
    rcases List.mem_cons.mp h with h | h
    · rcases dl_ad_mem (L := L) (c := d) with h2 | h2
      · exact Or.inl (h.trans h2)
      · obtain ⟨R, hR⟩ := dl_ads_pre l (dl_ad L d)
        refine Or.inr ?_
        rw [dl_ads_cons, hR, h]
        exact List.mem_append_left _ h2
    · exact dl_ads_mem l _ c h
/-- nothing is added of what is all there -/
theorem dl_ads_same {L : List Nat} : ∀ (l : List Int32), (∀ c, c ∈ l → c = -1 ∨ c.toNatClampNeg ∈ L) → dl_ads L l = L
  | [], _ => rfl
  | c :: l, h => by
    have h1 : dl_ad L c = L := by
      unfold dl_ad
      rcases h c List.mem_cons_self with h2 | h2
      · rw [if_pos h2]
      · split
        · rfl
        · first | rfl | rw [if_pos h2]
    rw [dl_ads_cons, h1]
    exact dl_ads_same l (fun d hd => h d (List.mem_cons_of_mem _ hd))
section DL42
variable {cs : Nat → List Int32} {dd nc : Nat}
def dl_x (dd : Nat) (M : List Nat) : List Nat := M.filter (fun m => !decide (m = dd))
theorem dl_x_app {M R : List Nat} : dl_x dd (M ++ R) = dl_x dd M ++ dl_x dd R := List.filter_append ..
theorem dl_x_mem {M : List Nat} {m : Nat} (h : ¬ m = dd) : m ∈ dl_x dd M ↔ m ∈ M := by
  unfold dl_x
  rw [List.mem_filter]
  exact ⟨fun hx => hx.1, fun hx => ⟨hx, by simp [h]⟩⟩
theorem dl_x_1 {m : Nat} (h : ¬ m = dd) : dl_x dd [m] = [m] := by
  unfold dl_x
  simp [h]
theorem dl_x_0 : dl_x dd [dd] = [] := by
  unfold dl_x
  simp
theorem dl_x_ad {M : List Nat} {c : Int32} : dl_ad (dd :: dl_x dd M) c = dd :: dl_x dd (dl_ad M c) := by
  unfold dl_ad
  by_cases hc : c = -1
  · rw [if_pos hc, if_pos hc]
  · rw [if_neg hc, if_neg hc]
    by_cases hd : c.toNatClampNeg = dd
    · rw [hd, if_pos List.mem_cons_self]
      by_cases hm : dd ∈ M
      · rw [if_pos hm]
      · rw [if_neg hm, dl_x_app, dl_x_0, List.append_nil]
    · have hiff : c.toNatClampNeg ∈ dd :: dl_x dd M ↔ c.toNatClampNeg ∈ M := by
        rw [List.mem_cons, dl_x_mem hd]
        exact ⟨fun hx => hx.elim (fun hy => absurd hy hd) id, Or.inr⟩
      by_cases hm : c.toNatClampNeg ∈ M
      · rw [if_pos hm, if_pos (hiff.mpr hm)]
      · rw [if_neg hm, if_neg (fun hx => hm (hiff.mp hx)), dl_x_app, dl_x_1 hd]
        rfl
theorem dl_x_ads : ∀ (l : List Int32) (M : List Nat), dl_ads (dd :: dl_x dd M) l = dd :: dl_x dd (dl_ads M l)
  | [], M => rfl
  | c :: l, M => by
    rw [dl_ads_cons, dl_ads_cons, dl_x_ad]
    exact dl_x_ads l (dl_ad M c)
theorem dl_eq (hdd : dd < 8) (hnc : nc ≤ 8009) (hcs : ∀ m, m < nc → ¬ m = 8 → ∀ c, c ∈ cs m → dl_v nc c) : ∀ (n2 n j : Nat) (M : List Nat) (acc : Nat), dl_ok nc M → dl_ok nc (dd :: dl_x dd M) → j ≤ M.length → (∀ c, c ∈ cs dd → c = -1 ∨ c.toNatClampNeg ∈ M) → nc ≤ n + (1 + (dl_x dd (M.take j)).length) → nc ≤ n2 + j →
    dl_run cs n (1 + (dl_x dd (M.take j)).length) (dd :: dl_x dd M) acc = dl_run cs n2 j M acc := by
  have hend : ∀ (n j : Nat) (M : List Nat) (acc : Nat), M.length ≤ j → dl_run cs n (1 + (dl_x dd (M.take j)).length) (dd :: dl_x dd M) acc = acc := fun n j M acc h => by
    rw [List.take_of_length_le h]
    match n with
    | 0 => rfl
    | n + 1 =>
      show (match (dd :: dl_x dd M)[1 + (dl_x dd M).length]? with
        | none => acc
        | some m => dl_run cs n (1 + (dl_x dd M).length + 1) (dl_ads (dd :: dl_x dd M) (cs m)) (acc + if 9 ≤ m then 1 else 0)) = acc
      rw [List.getElem?_eq_none (by rw [List.length_cons]; omega)]
  intro n2
  induction n2 with
  | zero =>
    intro n j M acc hM hL hj hdc h1 h2
    have := dl_ok_len hM
    exact hend n j M acc (by omega)
  | succ n2 ih =>
    intro n j M acc hM hL hj hdc h1 h2
    by_cases hjl : M.length ≤ j
    · rw [hend n j M acc hjl]
      show acc = (match M[j]? with
        | none => acc
        | some m => dl_run cs n2 (j + 1) (dl_ads M (cs m)) (acc + if 9 ≤ m then 1 else 0))
      rw [List.getElem?_eq_none hjl]
    · have hjl2 : j < M.length := by omega
      have hr : dl_run cs (n2 + 1) j M acc = dl_run cs n2 (j + 1) (dl_ads M (cs M[j])) (acc + if 9 ≤ M[j] then 1 else 0) := by
        show (match M[j]? with
          | none => acc
          | some m => dl_run cs n2 (j + 1) (dl_ads M (cs m)) (acc + if 9 ≤ m then 1 else 0)) = _
        rw [List.getElem?_eq_getElem hjl2]
      rw [hr]
      have htk : M.take (j + 1) = M.take j ++ [M[j]] := by
        rw [List.take_succ_eq_append_getElem hjl2]
      have hmem : M[j] ∈ M := List.getElem_mem hjl2
      by_cases hmd : M[j] = dd
      · rw [hmd, dl_ads_same _ hdc, if_neg (by omega), Nat.add_zero]
        have hx : dl_x dd (M.take (j + 1)) = dl_x dd (M.take j) := by rw [htk, hmd, dl_x_app, dl_x_0, List.append_nil]
        have h3 := ih n (j + 1) M acc hM hL (by omega) hdc (by rw [hx]; exact h1) (by omega)
        rw [hx] at h3
        exact h3
      · obtain ⟨hm1, hm2⟩ := hM.2 _ hmem
        have hget : (dd :: dl_x dd M)[1 + (dl_x dd (M.take j)).length]? = some M[j] := by
          have hsp : M = M.take j ++ M[j] :: M.drop (j + 1) := by
            rw [← List.drop_eq_getElem_cons hjl2, List.take_append_drop]
          have hfx : dl_x dd M = dl_x dd (M.take j) ++ (M[j] :: dl_x dd (M.drop (j + 1))) := by
            conv => lhs; rw [hsp]
            rw [dl_x_app]
            congr 1
            unfold dl_x
            rw [List.filter_cons_of_pos (by simp [hmd])]
          rw [hfx, show 1 + (dl_x dd (M.take j)).length = (dl_x dd (M.take j)).length + 1 by omega, List.getElem?_cons_succ, List.getElem?_append_right (Nat.le_refl _), Nat.sub_self]
          rfl
        have hlen := dl_ok_len hL
        have hi : 1 + (dl_x dd (M.take j)).length < (dd :: dl_x dd M).length := by
          rcases Nat.lt_or_ge (1 + (dl_x dd (M.take j)).length) (dd :: dl_x dd M).length with hx | hx
          · exact hx
          · rw [List.getElem?_eq_none hx] at hget
            cases hget
        obtain ⟨k, rfl⟩ : ∃ k, n = k + 1 := ⟨n - 1, by omega⟩
        have hl : dl_run cs (k + 1) (1 + (dl_x dd (M.take j)).length) (dd :: dl_x dd M) acc = dl_run cs k (1 + (dl_x dd (M.take j)).length + 1) (dl_ads (dd :: dl_x dd M) (cs M[j])) (acc + if 9 ≤ M[j] then 1 else 0) := by
          show (match (dd :: dl_x dd M)[1 + (dl_x dd (M.take j)).length]? with
            | none => acc
            | some m => dl_run cs k (1 + (dl_x dd (M.take j)).length + 1) (dl_ads (dd :: dl_x dd M) (cs m)) (acc + if 9 ≤ m then 1 else 0)) = _
          rw [hget]
        rw [hl, dl_x_ads]
        obtain ⟨R, hR⟩ := dl_ads_pre (cs M[j]) M
        have hM2 := dl_ads_ok hnc (cs M[j]) M hM (hcs _ hm1 hm2)
        have hL2 := dl_ads_ok hnc (cs M[j]) _ hL (hcs _ hm1 hm2)
        rw [dl_x_ads] at hL2
        have htk2 : (dl_ads M (cs M[j])).take (j + 1) = M.take j ++ [M[j]] := by
          rw [hR, List.take_append_of_le_length (by omega), htk]
        have hxl : (dl_x dd ((dl_ads M (cs M[j])).take (j + 1))).length = (dl_x dd (M.take j)).length + 1 := by
          rw [htk2, dl_x_app, dl_x_1 hmd, List.length_append]
          rfl
        have h3 := ih k (j + 1) (dl_ads M (cs M[j])) (acc + if 9 ≤ M[j] then 1 else 0) hM2 hL2 (by rw [hR, List.length_append]; omega) (fun c hc => (hdc c hc).imp id (fun hx => by rw [hR]; exact List.mem_append_left _ hx)) (by rw [hxl]; omega) (by omega)
        rw [hxl] at h3
        rw [show 1 + (dl_x dd (M.take j)).length + 1 = 1 + ((dl_x dd (M.take j)).length + 1) by omega]
        exact h3
end DL42
