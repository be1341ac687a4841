/-! ## 59 the model reads a node -/
theorem ct_26 {v w : Nat} (hv : v < 26) (hw : w < 26) : (26 * Int32.ofNat v + Int32.ofNat w) / 26 = Int32.ofNat v ∧ (26 * Int32.ofNat v + Int32.ofNat w) - (26 * Int32.ofNat v + Int32.ofNat w) / 26 * 26 = Int32.ofNat w := by
  have h : ∀ v, v < 26 → ∀ w, w < 26 → (26 * Int32.ofNat v + Int32.ofNat w) / 26 = Int32.ofNat v ∧ (26 * Int32.ofNat v + Int32.ofNat w) - (26 * Int32.ofNat v + Int32.ofNat w) / 26 * 26 = Int32.ofNat w := by decide +kernel
  exact h v hv w hw
theorem cl_rs_bk2 {N : List ct_E} {B : List Int32} {S S9 : cm_S} {σ : Int32 → Int32} {nx m nx2 m2 v w : Nat} {y z : Int32} (hv : v < 26) (hw : w < 26) (hs : cl_rs N B S σ nx m) (h : cl_rs N B S9 (ct_us (ct_us σ (Int32.ofNat v) y) (Int32.ofNat w) z) nx2 m2) : cl_rs N B (cm_wI (cm_wI S9 91 v (S.1 91 v)) 91 w (S.1 91 w)) σ nx2 m2 := by
  have h1 : cl_rs N B (cm_wI S9 91 v (S.1 91 v)) (fun x => if x = Int32.ofNat v then σ x else ct_us (ct_us σ (Int32.ofNat v) y) (Int32.ofNat w) z x) nx2 m2 := cl_rs_91 (fun u hu => by
    by_cases huv : u = v
    · rw [if_pos huv, if_pos (by rw [huv]), huv]; exact hs.2.2.2.1 v hv
    · rw [if_neg huv, h.2.2.2.1 u hu, if_neg (fun hc => huv ((cp_inj (by omega) (by omega)).mp hc))]) h
  refine cl_rs_91 (fun u hu => ?_) h1
  by_cases huw : u = w
  · rw [if_pos huw, huw]; exact hs.2.2.2.1 w hw
  · rw [if_neg huw, h1.2.2.2.1 u hu]
    show ct_fr 0 B (if Int32.ofNat u = Int32.ofNat v then σ (Int32.ofNat u) else ct_us (ct_us σ (Int32.ofNat v) y) (Int32.ofNat w) z (Int32.ofNat u)) = _
    by_cases huv : u = v
    · rw [if_pos (by rw [huv])]
    · rw [if_neg (fun hc => huv ((cp_inj (by omega) (by omega)).mp hc)), ct_us_ne hu hw huw, ct_us_ne hu hv huv]
section CP59
variable {L : Nat} {xs : Nat → Int32} {N : List ct_E} {B : List Int32}
theorem cp_199 {σ : Int32 → Int32} {y z e1 : Int32} {e2 : Int64} {e : ct_E} {a b c : ct_T} {fa fb : List Nat} {D nx lo i v w : Nat} {S : cm_S} {P R : List Int32} {K : cm_K} (hnd : B.Nodup) (he : N[i]? = some e) (hi : i < 120) (hnm : ct_nm e.1 e.2.2.1 e.2.2.2.1 = 26 * Int32.ofNat v + Int32.ofNat w) (hv : v < 26) (hw : w < 26) (ih : cl_rd L xs N B e.2.2.2.2.2.2.1 (ct_us (ct_us σ (Int32.ofNat v) y) (Int32.ofNat w) z) c) (wa : ct_wf a) (wb : ct_wf b) (wc : ct_wf c) (hD : 2 * ct_sz c + 4 ≤ D) (hB : B = P ++ (y :: z :: (ct_bo c ++ R))) (hcap : lo + ct_sz c ≤ 8192) (hs : cl_rs N B S σ lo P.length) (hg : cl_sg S nx (e1, e2, -1, -1) a fa b fb .leaf []) (hlo : nx < lo) (hf : ∀ x, x ∈ fa ∨ x ∈ fb → nx < x ∧ x < lo) (hn : nx < 8192)
    (k : ∀ S3, cl_rs N B S3 σ (lo + ct_sz c) (P.length + 2 + (ct_bo c).length) → cl_sg S3 nx (e1, e2, Int32.ofNat P.length, Int32.ofNat (P.length + 1)) a fa b fb (ct_map (ct_fr 0 B) c) (List.range' lo (ct_sz c)) → cl_fg (ct_fx c) (S.1 83 9) (S3.1 83 9) → cf_W (cW_rd nx (lo + ct_sz c - nx)) S S3 → K (.inl none) S3 0) :
    cm_At (am_XX L xs) D 199 0 [some (.ref 83), some (.int (Int32.ofNat i)), some (.int (Int32.ofNat nx)), none, none, none, none] [] S K := by
  obtain ⟨D, rfl⟩ : ∃ d, D = d + 2 := ⟨D - 2, by omega⟩
  have w0 : ct_wf .leaf := trivial
  obtain ⟨m1, m2⟩ := ct_26 hv hw
  have hf3 : ∀ x, x ∈ fa ∨ x ∈ fb ∨ x ∈ ([] : List Nat) → nx < x ∧ x < lo := fun x hx => by
    rcases hx with hx | hx | hx
    · exact hf x (Or.inl hx)
    · exact hf x (Or.inr hx)
    · cases hx
  have hf0 : ∀ x, x ∈ fa ∨ x ∈ fb ∨ x ∈ ([] : List Nat) → ¬ x = nx := fun x hx => by have := hf3 x hx; omega
  refine cx_199_0 _ _ ?_
  rw [cp_cl (show i < 2147483648 by omega), cp_cl (show nx < 2147483648 by omega)]
  refine ⟨cp_in hi (by decide), ?_⟩
  rw [(cl_rs_row hs he).2.2.1, hnm]
  rintro _ rfl
  refine ⟨by decide, cp_in hi (by decide), ?_⟩
  rintro _ rfl
  rw [m2, m1, cp_cl (show v < 2147483648 by omega), cp_cl (show w < 2147483648 by omega)]
  refine ⟨by decide, cp_in hv (by decide), ?_⟩
  rintro _ rfl
  refine ⟨cp_in hw (by decide), ?_⟩
  rintro _ rfl
  refine cp_195n hs.2.2.1 (cp_r1 ⟨cp_in hn (by decide), ?_⟩)
  rintro _ rfl
  have s6 : cl_rs N B (cm_wI (cm_wI S 83 20 (Int32.ofNat (P.length + 1))) 97 nx (Int32.ofNat P.length)) σ lo (P.length + 1) := cl_rs_w (by omega) (by omega) (cl_rs_20 hs)
  refine cp_195n s6.2.2.1 (cp_r1 ⟨cp_in hn (by decide), ?_⟩)
  rintro _ rfl
  refine ⟨cp_in hn (by decide), ?_⟩
  rintro _ rfl
  refine ⟨cp_in hv (by decide), ?_⟩
  rw [show (cm_wI (cm_wI (cm_wI (cm_wI S 83 20 (Int32.ofNat (P.length + 1))) 97 nx (Int32.ofNat P.length)) 83 20 (Int32.ofNat (P.length + 1 + 1))) 98 nx (Int32.ofNat (P.length + 1))).1 97 nx = Int32.ofNat P.length from by rw [cp_wI1, if_neg (by omega), cp_wI1, if_neg (by omega), cp_wI1, if_pos ⟨rfl, rfl⟩]]
  rintro _ rfl
  refine ⟨cp_in hn (by decide), ?_⟩
  rintro _ rfl
  refine ⟨cp_in hw (by decide), ?_⟩
  rw [show (cm_wI (cm_wI (cm_wI (cm_wI (cm_wI S 83 20 (Int32.ofNat (P.length + 1))) 97 nx (Int32.ofNat P.length)) 83 20 (Int32.ofNat (P.length + 1 + 1))) 98 nx (Int32.ofNat (P.length + 1))) 91 v (Int32.ofNat P.length)).1 98 nx = Int32.ofNat (P.length + 1) from by rw [cp_wI1, if_neg (by omega), cp_wI1, if_pos ⟨rfl, rfl⟩]]
  rintro _ rfl
  have s7 : cl_rs N B (cm_wI (cm_wI (cm_wI (cm_wI (cm_wI S 83 20 (Int32.ofNat (P.length + 1))) 97 nx (Int32.ofNat P.length)) 83 20 (Int32.ofNat (P.length + 1 + 1))) 98 nx (Int32.ofNat (P.length + 1))) 91 v (Int32.ofNat P.length)) (ct_us σ (Int32.ofNat v) y) lo (P.length + 1 + 1) := cl_rs_us hnd hB hv (cl_rs_w (by omega) (by omega) (cl_rs_20 s6))
  have hl2 : (P ++ [y]).length = P.length + 1 := by rw [List.length_append, List.length_singleton]
  have hl3 : (P ++ [y, z]).length = P.length + 1 + 1 := by rw [List.length_append]; rfl
  have s8 : cl_rs N B (cm_wI (cm_wI (cm_wI (cm_wI (cm_wI (cm_wI S 83 20 (Int32.ofNat (P.length + 1))) 97 nx (Int32.ofNat P.length)) 83 20 (Int32.ofNat (P.length + 1 + 1))) 98 nx (Int32.ofNat (P.length + 1))) 91 v (Int32.ofNat P.length)) 91 w (Int32.ofNat (P.length + 1))) (ct_us (ct_us σ (Int32.ofNat v) y) (Int32.ofNat w) z) lo (P ++ [y, z]).length := by
    rw [hl3]
    have h := cl_rs_us (P := P ++ [y]) (R := ct_bo c ++ R) (y := z) hnd (by rw [hB]; simp) hw s7
    rw [hl2] at h
    exact h
  have g8 : cl_sg (cm_wI (cm_wI (cm_wI (cm_wI (cm_wI (cm_wI S 83 20 (Int32.ofNat (P.length + 1))) 97 nx (Int32.ofNat P.length)) 83 20 (Int32.ofNat (P.length + 1 + 1))) 98 nx (Int32.ofNat (P.length + 1))) 91 v (Int32.ofNat P.length)) 91 w (Int32.ofNat (P.length + 1))) nx (e1, e2, Int32.ofNat P.length, Int32.ofNat (P.length + 1)) a fa b fb .leaf [] :=
    cl_sg_wo wa wb w0 (by omega) (cl_sg_wo wa wb w0 (by omega) (cl_sg_98 wa wb w0 hf0 (cl_sg_wo wa wb w0 (by omega) (cl_sg_97 wa wb w0 hf0 (cl_sg_wo wa wb w0 (by omega) hg)))))
  have c8 : cf_W (cW_rd nx (lo + ct_sz c - nx)) S (cm_wI (cm_wI (cm_wI (cm_wI (cm_wI (cm_wI S 83 20 (Int32.ofNat (P.length + 1))) 97 nx (Int32.ofNat P.length)) 83 20 (Int32.ofNat (P.length + 1 + 1))) 98 nx (Int32.ofNat (P.length + 1))) 91 v (Int32.ofNat P.length)) 91 w (Int32.ofNat (P.length + 1))) := cf_tr (cf_wI (decide_eq_true (by omega))) (cf_tr (cf_wI (decide_eq_true (by omega))) (cf_tr (cf_wI (decide_eq_true (by omega))) (cf_tr (cf_wI (decide_eq_true (by omega))) (cf_tr (cf_wI (decide_eq_true (by omega))) (cf_wI (decide_eq_true (by omega)))))))
  have f8 : (cm_wI (cm_wI (cm_wI (cm_wI (cm_wI (cm_wI S 83 20 (Int32.ofNat (P.length + 1))) 97 nx (Int32.ofNat P.length)) 83 20 (Int32.ofNat (P.length + 1 + 1))) 98 nx (Int32.ofNat (P.length + 1))) 91 v (Int32.ofNat P.length)) 91 w (Int32.ofNat (P.length + 1))).1 83 9 = S.1 83 9 := by
    rw [cp_wI1, if_neg (by omega), cp_wI1, if_neg (by omega), cp_wI1, if_neg (by omega), cp_wI1, if_neg (by omega), cp_wI1, if_neg (by omega), cp_wI1, if_neg (by omega)]
  generalize cm_wI (cm_wI (cm_wI (cm_wI (cm_wI (cm_wI S 83 20 (Int32.ofNat (P.length + 1))) 97 nx (Int32.ofNat P.length)) 83 20 (Int32.ofNat (P.length + 1 + 1))) 98 nx (Int32.ofNat (P.length + 1))) 91 v (Int32.ofNat P.length)) 91 w (Int32.ofNat (P.length + 1)) = S8 at s8 g8 c8 f8 ⊢
  refine ⟨cp_in hi (by decide), ?_⟩
  rw [(cl_rs_row s8 he).2.2.2.2.2.1]
  rintro _ rfl
  refine cp_rc ih wc wa wb w0 (by omega) (P := P ++ [y, z]) (R := R) (by rw [hB]; simp) hcap s8 g8 hlo hf3 hn (fun S9 s9 g9 f9 c9 => ⟨cp_in hv (by decide), ?_⟩)
  rintro _ rfl
  refine ⟨cp_in hw (by decide), ?_⟩
  rintro _ rfl
  try dsimp only [cm_sh]
  rw [hl3] at s9
  refine k _ (cl_rs_bk2 hv hw hs s9) (cl_sg_wo wa wb (ct_map_wf c wc) (by omega) (cl_sg_wo wa wb (ct_map_wf c wc) (by omega) g9)) ?_ (cf_tr c8 (cf_tr c9 (cf_tr (cf_wI (decide_eq_true (by omega))) (cf_wI (decide_eq_true (by omega))))))
  rw [cp_wI1, if_neg (by omega), cp_wI1, if_neg (by omega), ← f8]
  exact f9
/-- what is at a node when all its parts are read -/
theorem cl_sg_t {S : cm_S} {nx : Nat} {e : ct_D} {a b c : ct_T} (hn : nx < 8192) (h : cl_sg S nx e (ct_map (ct_fr 0 B) a) (List.range' (nx + 1) (ct_sz a)) (ct_map (ct_fr 0 B) b) (List.range' (nx + 1 + ct_sz a) (ct_sz b)) (ct_map (ct_fr 0 B) c) (List.range' (nx + 1 + ct_sz a + ct_sz b) (ct_sz c))) : cl_t S (ct_nd e (ct_map (ct_fr 0 B) a) (ct_map (ct_fr 0 B) b) (ct_map (ct_fr 0 B) c)) (Int32.ofNat nx) (List.range' nx (1 + (ct_sz a + (ct_sz b + ct_sz c)))) := by
  obtain ⟨g1, g2, g3, g4⟩ := h
  refine cl_t_nd.mpr ⟨nx, _, _, _, rfl, hn, g1, g2, g3, g4, ?_⟩
  rw [show 1 + (ct_sz a + (ct_sz b + ct_sz c)) = (ct_sz a + (ct_sz b + ct_sz c)) + 1 by omega, List.range'_succ, ← List.range'_append_1, ← List.range'_append_1]
theorem ct_fx_nd {dd : ct_D} {a b c : ct_T} (h : ¬ dd.1 = 2) : ct_fx (ct_nd dd a b c) ↔ ct_fx a ∧ ct_fx b ∧ ct_fx c := by
  unfold ct_fx
  rw [ct_fl_nd]
  refine ⟨fun hx => ⟨fun e he => hx e (List.mem_cons_of_mem _ (List.mem_append_left _ he)), fun e he => hx e (List.mem_cons_of_mem _ (List.mem_append_right _ (List.mem_append_left _ he))), fun e he => hx e (List.mem_cons_of_mem _ (List.mem_append_right _ (List.mem_append_right _ he)))⟩, fun hx e he => ?_⟩
  rcases List.mem_cons.mp he with he | he
  · rw [he]; exact fun hc => absurd hc h
  · rcases List.mem_append.mp he with he | he
    · exact hx.1 e he
    · rcases List.mem_append.mp he with he | he
      · exact hx.2.1 e he
      · exact hx.2.2 e he
theorem ct_fr_neg {x : Int32} (hB0 : ∀ y, y ∈ B → 0 ≤ y.toInt) (hl : B.length ≤ 32768) : ct_fr 0 B x = -1 ↔ x = -1 := by
  refine ⟨fun h => ?_, fun h => by rw [h]; exact ct_fr_m1 hB0⟩
  unfold ct_fr at h
  split at h
  · next hx =>
    have := ct_ix_lt hx
    exact absurd h (cp_m1 (by omega))
  · exact h
end CP59
