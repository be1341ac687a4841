/-! ## a20 the run machine: what the small methods of both sides do -/
def de_nx (A : cm_S) (q s : Int32) : cm_S := cm_wI (cm_wI (cm_wI A 57 9 1) 57 10 q) 57 11 s
def me_ev (S : cm_S) (q s : Int32) : cm_S := cm_wI (cm_wI (cm_wI S 83 63 q) 83 64 s) 83 65 (-1)
def me_gv (S : cm_S) (v : Int32) : cm_S := cm_wI (cm_wI S 83 65 v) 83 63 (-1)
def de_gv (A : cm_S) (st f s : Int32) (num : Int64) : cm_S := de_fi (cm_wI A 57 9 0) 8 st f s num
def de_mf (A : cm_S) (nc : Nat) : cm_S := de_fi (cm_wI A 64 4 (Int32.ofNat (nc + 1))) nc (A.1 65 8) (A.1 66 8) (A.1 67 8) (A.2 68 8)
section CPa20
variable {L : Nat} {xs : Nat → Int32} {d : Nat} {A S : cm_S} {K : cm_K} {nc ne nf nv m k : Nat}
theorem cp_120 {st f s : Int32} {num : Int64} (hm : m < 8009) (h : K (.inl none) (de_fi A m st f s num) 0) : cm_At (am_XX L xs) (d + 2) 120 0 [some (.ref 64), some (.int (Int32.ofNat m)), some (.int st), some (.int f), some (.int s), some (.long num), none] [] A K := by
  refine cx_120_0 _ _ _ _ _ ?_
  refine cp_167 (by decide) (cp_r0 ?_)
  rw [cp_w_at (by rw [dm_rl.1]; omega) (by decide +kernel)]
  refine cp_167 (by decide) (cp_r0 ?_)
  rw [cp_w_at (by rw [dm_rl.2.1]; omega) (by decide +kernel)]
  refine cp_167 (by decide) (cp_r0 ?_)
  rw [cp_w_at (by rw [dm_rl.2.2.1]; omega) (by decide +kernel)]
  refine cp_169 (by decide) (cp_r0 ?_)
  unfold cp_wL
  rw [cp_tI (by omega), if_pos (by rw [dm_rl.2.2.2.1]; omega)]
  exact h
theorem cp_116 (h4 : A.1 64 4 = Int32.ofNat nc) (hnc : nc ≤ 8009) (hm : m < nc) (h : K (.inl (some (.int (A.1 65 m)))) A 0) : cm_At (am_XX L xs) (d + 2) 116 0 [some (.ref 64), some (.int (Int32.ofNat m))] [] A K := by
  refine cx_116_0 _ ⟨fun hc => absurd hc (cp_nn (by omega)), fun _ => ?_⟩
  rintro _ rfl
  rw [h4, cp_lt (by omega) (by omega)]
  refine ⟨fun _ => ?_, fun hc => absurd hm hc⟩
  refine cp_166 (by decide) (cp_r1 ?_)
  rw [cp_g_at (by rw [dm_rl.1]; omega) (by decide +kernel)]
  exact h
theorem cp_116n (h : K (.inl (some (.int 0))) A 0) : cm_At (am_XX L xs) (d + 2) 116 0 [some (.ref 64), some (.int (-1))] [] A K := cx_116_0 _ ⟨fun _ => h, fun hc => absurd (by decide) hc⟩
theorem cp_117 (hm : m < 8009) (h : K (.inl (some (.int (A.1 66 m)))) A 0) : cm_At (am_XX L xs) (d + 2) 117 0 [some (.ref 64), some (.int (Int32.ofNat m))] [] A K := by
  refine cx_117_0 _ ?_
  refine cp_166 (by decide) (cp_r1 ?_)
  rw [cp_g_at (by rw [dm_rl.2.1]; omega) (by decide +kernel)]
  exact h
theorem cp_118 (hm : m < 8009) (h : K (.inl (some (.int (A.1 67 m)))) A 0) : cm_At (am_XX L xs) (d + 2) 118 0 [some (.ref 64), some (.int (Int32.ofNat m))] [] A K := by
  refine cx_118_0 _ ?_
  refine cp_166 (by decide) (cp_r1 ?_)
  rw [cp_g_at (by rw [dm_rl.2.2.1]; omega) (by decide +kernel)]
  exact h
theorem cp_119 (hm : m < 8009) (h : K (.inl (some (.long (A.2 68 m)))) A 0) : cm_At (am_XX L xs) (d + 2) 119 0 [some (.ref 64), some (.int (Int32.ofNat m))] [] A K := by
  refine cx_119_0 _ ?_
  refine cp_168 (by decide) (cp_r2 ?_)
  rw [cp_g_at (by rw [dm_rl.2.2.2.1]; omega) (by decide +kernel)]
  exact h
theorem cp_121 {j : Nat} (h4 : A.1 64 4 = Int32.ofNat nc) (hnc : nc ≤ 8009) (hm : m < nc) (hj : j < 8009) (h : K (.inl none) (de_fi A j (A.1 65 m) (A.1 66 m) (A.1 67 m) (A.2 68 m)) 0) : cm_At (am_XX L xs) (d + 3) 121 0 [some (.ref 64), some (.int (Int32.ofNat m)), some (.int (Int32.ofNat j))] [] A K := by
  refine cx_121_0 _ _ ?_
  refine cp_116 h4 hnc hm (cp_r1 ?_)
  refine cp_117 (by omega) (cp_r1 ?_)
  refine cp_118 (by omega) (cp_r1 ?_)
  refine cp_119 (by omega) (cp_r2 ?_)
  exact cp_120 hj (cp_r0 h)
theorem cp_122 (hm : m < 8009) (h : K (.inl none) (cm_wI A 65 m (-2)) 0) : cm_At (am_XX L xs) (d + 2) 122 0 [some (.ref 64), some (.int (Int32.ofNat m))] [] A K := by
  refine cx_122_0 _ ?_
  refine cp_167 (by decide) (cp_r0 ?_)
  rw [cp_w_at (by rw [dm_rl.1]; omega) (by decide +kernel)]
  exact h
theorem cp_123 {q s : Int32} (h4 : A.1 64 4 = Int32.ofNat nc) (hnc : nc < 8009) (h : K (.inl (some (.int (Int32.ofNat nc)))) (de_mk A nc q s) 0) : cm_At (am_XX L xs) (d + 3) 123 0 [some (.ref 64), some (.int q), some (.int s), none] [] A K := by
  refine cx_123_0 _ _ ?_
  rintro _ rfl
  rintro _ rfl
  rw [h4, show Int32.ofNat nc + 1 = Int32.ofNat (nc + 1) from cp_ad (b := 1)]
  rintro _ rfl
  exact cp_120 hnc (cp_r0 h)
theorem cp_124 (h4 : A.1 64 4 = Int32.ofNat nc) (hnc : nc < 8009) (h9 : 9 ≤ nc) (h : K (.inl (some (.int (Int32.ofNat nc)))) (de_mf A nc) 0) : cm_At (am_XX L xs) (d + 4) 124 0 [some (.ref 64), none] [] A K := by
  refine cx_124_0 ?_
  rintro _ rfl
  rintro _ rfl
  rw [h4, show Int32.ofNat nc + 1 = Int32.ofNat (nc + 1) from cp_ad (b := 1)]
  rintro _ rfl
  refine cp_121 (nc := nc + 1) (m := 8) (j := nc) (by rw [cp_wI1, if_pos ⟨rfl, rfl⟩]) (by omega) (by omega) hnc (cp_r0 ?_)
  rw [cp_wI1, if_neg (by omega), cp_wI1, if_neg (by omega), cp_wI1, if_neg (by omega)]
  exact h
theorem cp_125 {s : Int32} (hm : m < 8009) (h : K (.inl none) (cm_wI A 67 m s) 0) : cm_At (am_XX L xs) (d + 2) 125 0 [some (.ref 64), some (.int (Int32.ofNat m)), some (.int s)] [] A K := by
  refine cx_125_0 _ _ ?_
  refine cp_167 (by decide) (cp_r0 ?_)
  rw [cp_w_at (by rw [dm_rl.2.2.1]; omega) (by decide +kernel)]
  exact h
theorem cp_126 {x c o : Int32} (h8 : A.1 64 8 = Int32.ofNat ne) (hne : ne < 8000) (h : K (.inl (some (.int (Int32.ofNat ne)))) (de_bd A ne x c o) 0) : cm_At (am_XX L xs) (d + 2) 126 0 [some (.ref 64), some (.int x), some (.int c), some (.int o), none] [] A K := by
  refine cx_126_0 _ _ _ ?_
  rintro _ rfl
  rintro _ rfl
  rw [h8, show Int32.ofNat ne + 1 = Int32.ofNat (ne + 1) from cp_ad (b := 1)]
  rintro _ rfl
  refine cp_167 (by decide) (cp_r0 ?_)
  rw [cp_w_at (by rw [dm_rl.2.2.2.2.1]; omega) (by decide +kernel)]
  refine cp_167 (by decide) (cp_r0 ?_)
  rw [cp_w_at (by rw [dm_rl.2.2.2.2.2.1]; omega) (by decide +kernel)]
  refine cp_167 (by decide) (cp_r0 ?_)
  rw [cp_w_at (by rw [dm_rl.2.2.2.2.2.2.1]; omega) (by decide +kernel)]
  exact h
theorem cp_56 {kd p s : Int32} {num : Int64} (h4 : A.1 72 4 = Int32.ofNat nf) (hnf : nf < 4064) (h : K (.inl none) (de_ps A nf kd p s num) 0) : cm_At (am_XX L xs) (d + 2) 56 0 [some (.ref 72), some (.int kd), some (.int p), some (.int s), some (.long num), none] [] A K := by
  obtain ⟨_, _, _, _, _, _, _, r1, r2, r3, r4, _⟩ := dm_rl
  refine cx_56_0 _ _ _ _ ?_
  rintro _ rfl
  rw [h4]
  refine cp_167 (by decide) (cp_r0 ?_)
  rw [cp_w_at (by rw [r1]; omega) (by decide +kernel)]
  rintro _ rfl
  rw [cp_wI1, if_neg (by omega), h4]
  refine cp_167 (by decide) (cp_r0 ?_)
  rw [cp_w_at (by rw [r2]; omega) (by decide +kernel)]
  rintro _ rfl
  rw [cp_wI1, if_neg (by omega), cp_wI1, if_neg (by omega), h4]
  refine cp_167 (by decide) (cp_r0 ?_)
  rw [cp_w_at (by rw [r3]; omega) (by decide +kernel)]
  rintro _ rfl
  rw [cp_wI1, if_neg (by omega), cp_wI1, if_neg (by omega), cp_wI1, if_neg (by omega), h4]
  refine cp_169 (by decide) (cp_r0 ?_)
  unfold cp_wL
  rw [cp_tI (by omega), if_pos (by rw [r4]; omega)]
  rintro _ rfl
  rw [cp_wJ1, cp_wI1, if_neg (by omega), cp_wI1, if_neg (by omega), cp_wI1, if_neg (by omega), h4, show Int32.ofNat nf + 1 = Int32.ofNat (nf + 1) from cp_ad (b := 1)]
  rintro _ rfl
  exact h
theorem cp_63 {q s : Int32} (h : K (.inl none) (de_nx A q s) 0) : cm_At (am_XX L xs) (d + 1) 63 0 [some (.ref 57), some (.int q), some (.int s)] [] A K := by
  refine cx_63_0 _ _ ⟨Or.inr rfl, ?_⟩
  rintro _ rfl
  rintro _ rfl
  rintro _ rfl
  exact h
theorem cp_64 {st f s : Int32} {num : Int64} (h : K (.inl none) (de_gv A st f s num) 0) : cm_At (am_XX L xs) (d + 3) 64 0 [some (.ref 57), some (.int st), some (.int f), some (.int s), some (.long num), none] [] A K := by
  refine cx_64_0 _ _ _ _ ⟨Or.inl rfl, ?_⟩
  rintro _ rfl
  exact cp_120 (m := 8) (by omega) (cp_r0 h)
/-! the model -/
theorem cp_248 {t o1 o2 : Int32} {num : Int64} (h4 : S.1 83 54 = Int32.ofNat nv) (hnv : nv < 8192) (h : K (.inl (some (.int (Int32.ofNat nv)))) (me_vl S nv t num o1 o2) 0) : cm_At (am_XX L xs) (d + 1) 248 0 [some (.ref 83), some (.int t), some (.long num), none, some (.int o1), some (.int o2)] [] S K := by
  refine cx_248_0 _ _ _ _ ?_
  rintro _ rfl
  rw [h4]
  refine ⟨cp_in hnv (by decide), ?_⟩
  rw [cp_cl (by omega)]
  rintro _ rfl
  rintro _ rfl
  rw [cp_wI1, if_neg (by omega), h4]
  refine ⟨cp_in hnv (by decide), ?_⟩
  rw [cp_cl (by omega)]
  rintro _ rfl
  rintro _ rfl
  rw [cp_wJ1, cp_wI1, if_neg (by omega), h4]
  refine ⟨cp_in hnv (by decide), ?_⟩
  rw [cp_cl (by omega)]
  rintro _ rfl
  rintro _ rfl
  rw [cp_wI1, if_neg (by omega), cp_wJ1, cp_wI1, if_neg (by omega), h4]
  refine ⟨cp_in hnv (by decide), ?_⟩
  rw [cp_cl (by omega)]
  rintro _ rfl
  rintro _ rfl
  rw [cp_wI1, if_neg (by omega), cp_wI1, if_neg (by omega), cp_wJ1, cp_wI1, if_neg (by omega), h4, show Int32.ofNat nv + 1 = Int32.ofNat (nv + 1) from cp_ad (b := 1)]
  rintro _ rfl
  rintro _ rfl
  rw [cp_wI1, if_pos ⟨rfl, rfl⟩, cp_s1]
  exact h
theorem cp_249 {q s : Int32} (h4 : S.1 83 45 = Int32.ofNat k) (hk : k < 8192) (h : K (.inl (some (.int (Int32.ofNat k)))) (me_cl S k q s) 0) : cm_At (am_XX L xs) (d + 1) 249 0 [some (.ref 83), some (.int q), some (.int s)] [] S K := by
  refine cx_249_0 _ _ ?_
  rintro _ rfl
  rw [h4]
  refine ⟨cp_in hk (by decide), ?_⟩
  rw [cp_cl (by omega)]
  rintro _ rfl
  rintro _ rfl
  rw [cp_wI1, if_neg (by omega), h4]
  refine ⟨cp_in hk (by decide), ?_⟩
  rw [cp_cl (by omega)]
  rintro _ rfl
  rintro _ rfl
  rw [cp_wI1, if_neg (by omega), cp_wI1, if_neg (by omega), h4]
  refine ⟨cp_in hk (by decide), ?_⟩
  rw [cp_cl (by omega)]
  rintro _ rfl
  rintro _ rfl
  rw [cp_wI1, if_neg (by omega), cp_wI1, if_neg (by omega), cp_wI1, if_neg (by omega), h4]
  refine ⟨cp_in hk (by decide), ?_⟩
  rw [cp_cl (by omega)]
  rintro _ rfl
  rintro _ rfl
  rw [cp_wI1, if_neg (by omega), cp_wI1, if_neg (by omega), cp_wI1, if_neg (by omega), cp_wI1, if_neg (by omega), h4, show Int32.ofNat k + 1 = Int32.ofNat (k + 1) from cp_ad (b := 1)]
  rintro _ rfl
  rintro _ rfl
  rw [cp_wI1, if_pos ⟨rfl, rfl⟩, cp_s1]
  exact h
theorem cp_250 {y c o : Int32} (h4 : S.1 83 50 = Int32.ofNat ne) (hk : ne < 8192) (h : K (.inl (some (.int (Int32.ofNat ne)))) (me_bd S ne y c o) 0) : cm_At (am_XX L xs) (d + 1) 250 0 [some (.ref 83), some (.int y), some (.int c), some (.int o)] [] S K := by
  refine cx_250_0 _ _ _ ?_
  rintro _ rfl
  rw [h4]
  refine ⟨cp_in hk (by decide), ?_⟩
  rw [cp_cl (by omega)]
  rintro _ rfl
  rintro _ rfl
  rw [cp_wI1, if_neg (by omega), h4]
  refine ⟨cp_in hk (by decide), ?_⟩
  rw [cp_cl (by omega)]
  rintro _ rfl
  rintro _ rfl
  rw [cp_wI1, if_neg (by omega), cp_wI1, if_neg (by omega), h4]
  refine ⟨cp_in hk (by decide), ?_⟩
  rw [cp_cl (by omega)]
  rintro _ rfl
  rintro _ rfl
  rw [cp_wI1, if_neg (by omega), cp_wI1, if_neg (by omega), cp_wI1, if_neg (by omega), h4, show Int32.ofNat ne + 1 = Int32.ofNat (ne + 1) from cp_ad (b := 1)]
  rintro _ rfl
  rintro _ rfl
  rw [cp_wI1, if_pos ⟨rfl, rfl⟩, cp_s1]
  exact h
theorem cp_253 {kd p s : Int32} (h4 : S.1 83 59 = Int32.ofNat nf) (hk : nf < 8192) (h : K (.inl none) (me_ws S nf kd p s) 0) : cm_At (am_XX L xs) (d + 1) 253 0 [some (.ref 83), some (.int kd), some (.int p), some (.int s)] [] S K := by
  refine cx_253_0 _ _ _ ?_
  rintro _ rfl
  rw [h4]
  refine ⟨cp_in hk (by decide), ?_⟩
  rw [cp_cl (by omega)]
  rintro _ rfl
  rintro _ rfl
  rw [cp_wI1, if_neg (by omega), h4]
  refine ⟨cp_in hk (by decide), ?_⟩
  rw [cp_cl (by omega)]
  rintro _ rfl
  rintro _ rfl
  rw [cp_wI1, if_neg (by omega), cp_wI1, if_neg (by omega), h4]
  refine ⟨cp_in hk (by decide), ?_⟩
  rw [cp_cl (by omega)]
  rintro _ rfl
  rintro _ rfl
  rw [cp_wI1, if_neg (by omega), cp_wI1, if_neg (by omega), cp_wI1, if_neg (by omega), h4, show Int32.ofNat nf + 1 = Int32.ofNat (nf + 1) from cp_ad (b := 1)]
  rintro _ rfl
  exact h
theorem cp_254 {q s : Int32} (h : K (.inl none) (me_ev S q s) 0) : cm_At (am_XX L xs) (d + 1) 254 0 [some (.ref 83), some (.int q), some (.int s)] [] S K := by
  refine cx_254_0 _ _ ?_
  rintro _ rfl
  rintro _ rfl
  rintro _ rfl
  exact h
theorem cp_255 {v : Int32} (h : K (.inl none) (me_gv S v) 0) : cm_At (am_XX L xs) (d + 1) 255 0 [some (.ref 83), some (.int v)] [] S K := by
  refine cx_255_0 _ ?_
  rintro _ rfl
  rintro _ rfl
  exact h
end CPa20
