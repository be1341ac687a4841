/-! ## 53 the class binds the names of a node -/
set_option maxRecDepth 100000
set_option maxHeartbeats 4000000
theorem cw_2_0 {P : cm_P} {L : Nat} {xs : Nat → Int32} {d : Nat} {S : cm_S} {K : cm_K} (p0 : Int32) (p1 : Int32) (p2 : Int32) (h : P d 8 0 [some (.ref 2), some (.int p1)] [] S (fun r S1 k2 => cm_r1 (fun x4 => P d 9 0 [some (.ref 2), some (.int p1)] [] S1 (fun r S5 k6 => cm_r1 (fun x8 => P d 10 0 [some (.ref 2), some (.int p1)] [] S5 (fun r S9 k10 => cm_r1 (fun x12 => (x4 = (2 : Int32) → (P d 6 0 [some (.ref 9), some (.int x8), some (.int p2), none, none] [] S9 (fun r S13 k14 => cm_r1 (fun x16 => P d 19 0 [some (.ref 10), some (.int p0), some (.int x4), some (.int x16), some (.int (-1 : Int32)), some (.long (0 : Int64)), none, none] [] S13 (fun r S17 k18 => cm_r0 ((x16 = (-1 : Int32) → (((0 : Int32) = 0 ∨ (0 : Int32) = 1) ∧ (cm_sh (cm_sh (cm_sh (cm_sh (cm_sh K k2) k6) k10) k14) k18) (.inl (some (.int (0 : Int32)))) S17 0)) ∧ (¬ x16 = (-1 : Int32) → (((1 : Int32) = 0 ∨ (1 : Int32) = 1) ∧ (cm_sh (cm_sh (cm_sh (cm_sh (cm_sh K k2) k6) k10) k14) k18) (.inl (some (.int (1 : Int32)))) S17 0))) (fun e19 => (cm_sh (cm_sh (cm_sh (cm_sh K k2) k6) k10) k14) (.inr e19) S17 k18) r)) (fun e15 => (cm_sh (cm_sh (cm_sh K k2) k6) k10) (.inr e15) S13 k14) r))) ∧ (¬ x4 = (2 : Int32) → ((x8 = (-1 : Int32) → (P (d + 1) 2 95 [some (.ref 9), some (.int p0), some (.int p1), some (.int p2), some (.int x4), some (.int x8), some (.int x12), some (.int (-1 : Int32)), none, none, none] [] S9 (cm_sh (cm_sh (cm_sh K k2) k6) k10))) ∧ (¬ x8 = (-1 : Int32) → (P (d + 1) 2 95 [some (.ref 9), some (.int p0), some (.int p1), some (.int p2), some (.int x4), some (.int x8), some (.int x12), some (.int ((2 : Int32) * p0)), none, none, none] [] S9 (cm_sh (cm_sh (cm_sh K k2) k6) k10)))))) (fun e11 => (cm_sh (cm_sh K k2) k6) (.inr e11) S9 k10) r)) (fun e7 => (cm_sh K k2) (.inr e7) S5 k6) r)) (fun e3 => K (.inr e3) S1 k2) r)) : cm_st P (am_XX L xs) d cb_2 [] (cm_go P (am_XX L xs) d 2 cb_2 [] [95, 112, 168] 400) 0 [some (.ref 9), some (.int p0), some (.int p1), some (.int p2), none, none, none, none, none, none, none] [] S K := h
theorem cz_2_0 {L : Nat} {xs : Nat → Int32} {d : Nat} {S : cm_S} {K : cm_K} (p0 : Int32) (p1 : Int32) (p2 : Int32) (h : cm_At (am_XX L xs) d 8 0 [some (.ref 2), some (.int p1)] [] S (fun r S1 k2 => cm_r1 (fun x4 => cm_At (am_XX L xs) d 9 0 [some (.ref 2), some (.int p1)] [] S1 (fun r S5 k6 => cm_r1 (fun x8 => cm_At (am_XX L xs) d 10 0 [some (.ref 2), some (.int p1)] [] S5 (fun r S9 k10 => cm_r1 (fun x12 => (x4 = (2 : Int32) → (cm_At (am_XX L xs) d 6 0 [some (.ref 9), some (.int x8), some (.int p2), none, none] [] S9 (fun r S13 k14 => cm_r1 (fun x16 => cm_At (am_XX L xs) d 19 0 [some (.ref 10), some (.int p0), some (.int x4), some (.int x16), some (.int (-1 : Int32)), some (.long (0 : Int64)), none, none] [] S13 (fun r S17 k18 => cm_r0 ((x16 = (-1 : Int32) → (((0 : Int32) = 0 ∨ (0 : Int32) = 1) ∧ (cm_sh (cm_sh (cm_sh (cm_sh (cm_sh K k2) k6) k10) k14) k18) (.inl (some (.int (0 : Int32)))) S17 0)) ∧ (¬ x16 = (-1 : Int32) → (((1 : Int32) = 0 ∨ (1 : Int32) = 1) ∧ (cm_sh (cm_sh (cm_sh (cm_sh (cm_sh K k2) k6) k10) k14) k18) (.inl (some (.int (1 : Int32)))) S17 0))) (fun e19 => (cm_sh (cm_sh (cm_sh (cm_sh K k2) k6) k10) k14) (.inr e19) S17 k18) r)) (fun e15 => (cm_sh (cm_sh (cm_sh K k2) k6) k10) (.inr e15) S13 k14) r))) ∧ (¬ x4 = (2 : Int32) → ((x8 = (-1 : Int32) → (cm_At (am_XX L xs) (d + 1) 2 95 [some (.ref 9), some (.int p0), some (.int p1), some (.int p2), some (.int x4), some (.int x8), some (.int x12), some (.int (-1 : Int32)), none, none, none] [] S9 (cm_sh (cm_sh (cm_sh K k2) k6) k10))) ∧ (¬ x8 = (-1 : Int32) → (cm_At (am_XX L xs) (d + 1) 2 95 [some (.ref 9), some (.int p0), some (.int p1), some (.int p2), some (.int x4), some (.int x8), some (.int x12), some (.int ((2 : Int32) * p0)), none, none, none] [] S9 (cm_sh (cm_sh (cm_sh K k2) k6) k10)))))) (fun e11 => (cm_sh (cm_sh K k2) k6) (.inr e11) S9 k10) r)) (fun e7 => (cm_sh K k2) (.inr e7) S5 k6) r)) (fun e3 => K (.inr e3) S1 k2) r)) : cm_At (am_XX L xs) (d + 1) 2 0 [some (.ref 9), some (.int p0), some (.int p1), some (.int p2), none, none, none, none, none, none, none] [] S K := cm_go1 (show am_TT 2 = some (am_B2, 11, []) from rfl) cb_2_ok (cw_2_0 (P := cm_At (am_XX L xs)) p0 p1 p2 h)
theorem cw_2_95 {P : cm_P} {L : Nat} {xs : Nat → Int32} {d : Nat} {S : cm_S} {K : cm_K} (q1 : Int32) (q2 : Int32) (q3 : Int32) (q4 : Int32) (q5 : Int32) (q6 : Int32) (q7 : Int32) (h : (q6 = (-1 : Int32) → (P (d + 1) 2 112 [some (.ref 9), some (.int q1), some (.int q2), some (.int q3), some (.int q4), some (.int q5), some (.int q6), some (.int q7), some (.int (-1 : Int32)), none, none] [] S K)) ∧ (¬ q6 = (-1 : Int32) → (P (d + 1) 2 112 [some (.ref 9), some (.int q1), some (.int q2), some (.int q3), some (.int q4), some (.int q5), some (.int q6), some (.int q7), some (.int (((2 : Int32) * q1) + (1 : Int32))), none, none] [] S K))) : cm_st P (am_XX L xs) d cb_2 [] (cm_go P (am_XX L xs) d 2 cb_2 [] [95, 112, 168] 400) 95 [some (.ref 9), some (.int q1), some (.int q2), some (.int q3), some (.int q4), some (.int q5), some (.int q6), some (.int q7), none, none, none] [] S K := h
theorem cz_2_95 {L : Nat} {xs : Nat → Int32} {d : Nat} {S : cm_S} {K : cm_K} (q1 : Int32) (q2 : Int32) (q3 : Int32) (q4 : Int32) (q5 : Int32) (q6 : Int32) (q7 : Int32) (h : (q6 = (-1 : Int32) → (cm_At (am_XX L xs) (d + 1) 2 112 [some (.ref 9), some (.int q1), some (.int q2), some (.int q3), some (.int q4), some (.int q5), some (.int q6), some (.int q7), some (.int (-1 : Int32)), none, none] [] S K)) ∧ (¬ q6 = (-1 : Int32) → (cm_At (am_XX L xs) (d + 1) 2 112 [some (.ref 9), some (.int q1), some (.int q2), some (.int q3), some (.int q4), some (.int q5), some (.int q6), some (.int q7), some (.int (((2 : Int32) * q1) + (1 : Int32))), none, none] [] S K))) : cm_At (am_XX L xs) (d + 1) 2 95 [some (.ref 9), some (.int q1), some (.int q2), some (.int q3), some (.int q4), some (.int q5), some (.int q6), some (.int q7), none, none, none] [] S K := cm_go1 (show am_TT 2 = some (am_B2, 11, []) from rfl) cb_2_ok (cw_2_95 (P := cm_At (am_XX L xs)) q1 q2 q3 q4 q5 q6 q7 h)
theorem cw_2_112 {P : cm_P} {L : Nat} {xs : Nat → Int32} {d : Nat} {S : cm_S} {K : cm_K} (q1 : Int32) (q2 : Int32) (q3 : Int32) (q4 : Int32) (q5 : Int32) (q6 : Int32) (q7 : Int32) (q8 : Int32) (h : P d 11 0 [some (.ref 2), some (.int q2)] [] S (fun r S1 k2 => cm_r2 (fun x4 => P d 19 0 [some (.ref 10), some (.int q1), some (.int q4), some (.int q7), some (.int q8), some (.long x4), none, none] [] S1 (fun r S5 k6 => cm_r0 (P d 5 0 [some (.ref 9), some (.int q5), some (.int q7), some (.int q3), none] [] S5 (fun r S8 k9 => cm_r1 (fun x11 => P d 5 0 [some (.ref 9), some (.int q6), some (.int q8), some (.int x11), none] [] S8 (fun r S12 k13 => cm_r1 (fun x15 => P d 166 0 [some (.ref 1000001), some (.int q4)] [] S12 (fun r S16 k17 => cm_r1 (fun x19 => P (d + 1) 2 168 [some (.ref 9), some (.int q1), some (.int q2), some (.int q3), some (.int q4), some (.int q5), some (.int q6), some (.int q7), some (.int q8), some (.int x15), some (.int (x19 - (1 : Int32)))] [] S16 (cm_sh (cm_sh (cm_sh (cm_sh (cm_sh K k2) k6) k9) k13) k17)) (fun e18 => (cm_sh (cm_sh (cm_sh (cm_sh K k2) k6) k9) k13) (.inr e18) S16 k17) r)) (fun e14 => (cm_sh (cm_sh (cm_sh K k2) k6) k9) (.inr e14) S12 k13) r)) (fun e10 => (cm_sh (cm_sh K k2) k6) (.inr e10) S8 k9) r)) (fun e7 => (cm_sh K k2) (.inr e7) S5 k6) r)) (fun e3 => K (.inr e3) S1 k2) r)) : cm_st P (am_XX L xs) d cb_2 [] (cm_go P (am_XX L xs) d 2 cb_2 [] [95, 112, 168] 400) 112 [some (.ref 9), some (.int q1), some (.int q2), some (.int q3), some (.int q4), some (.int q5), some (.int q6), some (.int q7), some (.int q8), none, none] [] S K := h
theorem cz_2_112 {L : Nat} {xs : Nat → Int32} {d : Nat} {S : cm_S} {K : cm_K} (q1 : Int32) (q2 : Int32) (q3 : Int32) (q4 : Int32) (q5 : Int32) (q6 : Int32) (q7 : Int32) (q8 : Int32) (h : cm_At (am_XX L xs) d 11 0 [some (.ref 2), some (.int q2)] [] S (fun r S1 k2 => cm_r2 (fun x4 => cm_At (am_XX L xs) d 19 0 [some (.ref 10), some (.int q1), some (.int q4), some (.int q7), some (.int q8), some (.long x4), none, none] [] S1 (fun r S5 k6 => cm_r0 (cm_At (am_XX L xs) d 5 0 [some (.ref 9), some (.int q5), some (.int q7), some (.int q3), none] [] S5 (fun r S8 k9 => cm_r1 (fun x11 => cm_At (am_XX L xs) d 5 0 [some (.ref 9), some (.int q6), some (.int q8), some (.int x11), none] [] S8 (fun r S12 k13 => cm_r1 (fun x15 => cm_At (am_XX L xs) d 166 0 [some (.ref 1000001), some (.int q4)] [] S12 (fun r S16 k17 => cm_r1 (fun x19 => cm_At (am_XX L xs) (d + 1) 2 168 [some (.ref 9), some (.int q1), some (.int q2), some (.int q3), some (.int q4), some (.int q5), some (.int q6), some (.int q7), some (.int q8), some (.int x15), some (.int (x19 - (1 : Int32)))] [] S16 (cm_sh (cm_sh (cm_sh (cm_sh (cm_sh K k2) k6) k9) k13) k17)) (fun e18 => (cm_sh (cm_sh (cm_sh (cm_sh K k2) k6) k9) k13) (.inr e18) S16 k17) r)) (fun e14 => (cm_sh (cm_sh (cm_sh K k2) k6) k9) (.inr e14) S12 k13) r)) (fun e10 => (cm_sh (cm_sh K k2) k6) (.inr e10) S8 k9) r)) (fun e7 => (cm_sh K k2) (.inr e7) S5 k6) r)) (fun e3 => K (.inr e3) S1 k2) r)) : cm_At (am_XX L xs) (d + 1) 2 112 [some (.ref 9), some (.int q1), some (.int q2), some (.int q3), some (.int q4), some (.int q5), some (.int q6), some (.int q7), some (.int q8), none, none] [] S K := cm_go1 (show am_TT 2 = some (am_B2, 11, []) from rfl) cb_2_ok (cw_2_112 (P := cm_At (am_XX L xs)) q1 q2 q3 q4 q5 q6 q7 q8 h)
theorem cw_2_168 {P : cm_P} {L : Nat} {xs : Nat → Int32} {d : Nat} {S : cm_S} {K : cm_K} (q1 : Int32) (q2 : Int32) (q3 : Int32) (q4 : Int32) (q5 : Int32) (q6 : Int32) (q7 : Int32) (q8 : Int32) (q9 : Int32) (q10 : Int32) (h : (q10 < 0 → (((1 : Int32) = 0 ∨ (1 : Int32) = 1) ∧ K (.inl (some (.int (1 : Int32)))) S 0)) ∧ (¬ q10 < 0 → (P d 75 0 [some (.ref 1), some (.int q2), some (.int q10)] [] S (fun r S1 k2 => cm_r1 (fun x4 => P d 3 0 [some (.int q4), some (.int q10)] [] S1 (fun r S5 k6 => cm_r1 (fun x8 => (x8 = 0 → (P d 4 0 [some (.ref 9), some (.int x4), some (.int q3)] [] S5 (fun r S9 k10 => cm_r0 (P (d + 1) 2 168 [some (.ref 9), some (.int q1), some (.int q2), some (.int q3), some (.int q4), some (.int q5), some (.int q6), some (.int q7), some (.int q8), some (.int q9), some (.int (q10 + (-1 : Int32)))] [] S9 (cm_sh (cm_sh (cm_sh K k2) k6) k10)) (fun e11 => (cm_sh (cm_sh K k2) k6) (.inr e11) S9 k10) r))) ∧ (¬ x8 = 0 → (P d 4 0 [some (.ref 9), some (.int x4), some (.int q9)] [] S5 (fun r S12 k13 => cm_r0 (P (d + 1) 2 168 [some (.ref 9), some (.int q1), some (.int q2), some (.int q3), some (.int q4), some (.int q5), some (.int q6), some (.int q7), some (.int q8), some (.int q9), some (.int (q10 + (-1 : Int32)))] [] S12 (cm_sh (cm_sh (cm_sh K k2) k6) k13)) (fun e14 => (cm_sh (cm_sh K k2) k6) (.inr e14) S12 k13) r)))) (fun e7 => (cm_sh K k2) (.inr e7) S5 k6) r)) (fun e3 => K (.inr e3) S1 k2) r)))) : cm_st P (am_XX L xs) d cb_2 [] (cm_go P (am_XX L xs) d 2 cb_2 [] [95, 112, 168] 400) 168 [some (.ref 9), some (.int q1), some (.int q2), some (.int q3), some (.int q4), some (.int q5), some (.int q6), some (.int q7), some (.int q8), some (.int q9), some (.int q10)] [] S K := h
theorem cz_2_168 {L : Nat} {xs : Nat → Int32} {d : Nat} {S : cm_S} {K : cm_K} (q1 : Int32) (q2 : Int32) (q3 : Int32) (q4 : Int32) (q5 : Int32) (q6 : Int32) (q7 : Int32) (q8 : Int32) (q9 : Int32) (q10 : Int32) (h : (q10 < 0 → (((1 : Int32) = 0 ∨ (1 : Int32) = 1) ∧ K (.inl (some (.int (1 : Int32)))) S 0)) ∧ (¬ q10 < 0 → (cm_At (am_XX L xs) d 75 0 [some (.ref 1), some (.int q2), some (.int q10)] [] S (fun r S1 k2 => cm_r1 (fun x4 => cm_At (am_XX L xs) d 3 0 [some (.int q4), some (.int q10)] [] S1 (fun r S5 k6 => cm_r1 (fun x8 => (x8 = 0 → (cm_At (am_XX L xs) d 4 0 [some (.ref 9), some (.int x4), some (.int q3)] [] S5 (fun r S9 k10 => cm_r0 (cm_At (am_XX L xs) (d + 1) 2 168 [some (.ref 9), some (.int q1), some (.int q2), some (.int q3), some (.int q4), some (.int q5), some (.int q6), some (.int q7), some (.int q8), some (.int q9), some (.int (q10 + (-1 : Int32)))] [] S9 (cm_sh (cm_sh (cm_sh K k2) k6) k10)) (fun e11 => (cm_sh (cm_sh K k2) k6) (.inr e11) S9 k10) r))) ∧ (¬ x8 = 0 → (cm_At (am_XX L xs) d 4 0 [some (.ref 9), some (.int x4), some (.int q9)] [] S5 (fun r S12 k13 => cm_r0 (cm_At (am_XX L xs) (d + 1) 2 168 [some (.ref 9), some (.int q1), some (.int q2), some (.int q3), some (.int q4), some (.int q5), some (.int q6), some (.int q7), some (.int q8), some (.int q9), some (.int (q10 + (-1 : Int32)))] [] S12 (cm_sh (cm_sh (cm_sh K k2) k6) k13)) (fun e14 => (cm_sh (cm_sh K k2) k6) (.inr e14) S12 k13) r)))) (fun e7 => (cm_sh K k2) (.inr e7) S5 k6) r)) (fun e3 => K (.inr e3) S1 k2) r)))) : cm_At (am_XX L xs) (d + 1) 2 168 [some (.ref 9), some (.int q1), some (.int q2), some (.int q3), some (.int q4), some (.int q5), some (.int q6), some (.int q7), some (.int q8), some (.int q9), some (.int q10)] [] S K := cm_go1 (show am_TT 2 = some (am_B2, 11, []) from rfl) cb_2_ok (cw_2_168 (P := cm_At (am_XX L xs)) q1 q2 q3 q4 q5 q6 q7 q8 q9 q10 h)
/-- a chain of scopes: what each name stands for -/
def ck_ch (S : cm_S) : Nat → Nat → Int32 → (Int32 → Int32) → Prop
  | _, 0, s, σ => s = -1 ∧ σ = fun _ => -1
  | b, n + 1, s, σ => ∃ k τ, k < b ∧ s = Int32.ofNat k ∧ ¬ S.1 18 k = -1 ∧ σ = ct_us τ (S.1 18 k) (S.1 19 k) ∧ ck_ch S k n (S.1 20 k) τ
theorem ck_ch_le {S : cm_S} : ∀ {n b : Nat} {s : Int32} {σ : Int32 → Int32}, ck_ch S b n s σ → n ≤ b
  | 0, _, _, _, _ => Nat.zero_le _
  | n + 1, b, s, σ, h => by
    obtain ⟨k, τ, h1, h2, h3, h4, h5⟩ := h
    have := ck_ch_le h5
    omega
theorem ck_ch_mono {S : cm_S} {b b2 : Nat} (hb : b ≤ b2) : ∀ {n : Nat} {s : Int32} {σ : Int32 → Int32}, ck_ch S b n s σ → ck_ch S b2 n s σ
  | 0, _, _, h => h
  | n + 1, s, σ, h => by
    obtain ⟨k, τ, h1, h2⟩ := h
    exact ⟨k, τ, by omega, h2⟩
theorem ck_ch_cf {W : Nat → Nat → Bool} {S S2 : cm_S} (hc : cf_W W S S2) : ∀ {n b : Nat} {s : Int32} {σ : Int32 → Int32}, (∀ d j, 18 ≤ d → d ≤ 20 → j < b → W d j = false) → ck_ch S b n s σ → ck_ch S2 b n s σ
  | 0, _, _, _, _, h => h
  | n + 1, b, s, σ, hd, h => by
    obtain ⟨k, τ, h1, h2, h3, h4, h5⟩ := h
    have e1 := (hc 18 k (hd 18 k (by omega) (by omega) h1)).1
    have e2 := (hc 19 k (hd 19 k (by omega) (by omega) h1)).1
    have e3 := (hc 20 k (hd 20 k (by omega) (by omega) h1)).1
    exact ⟨k, τ, h1, h2, by rw [e1]; exact h3, by rw [e1, e2]; exact h4, by rw [e3]; exact ck_ch_cf hc (fun d j q1 q2 q3 => hd d j q1 q2 (by omega)) h5⟩
/-- what waits -/
def ck_sk (S : cm_S) : List (Int32 × Int32) → Prop
  | [] => True
  | x :: r => S.1 16 r.length = x.1 ∧ S.1 17 r.length = x.2 ∧ ck_sk S r
theorem ck_sk_cf {W : Nat → Nat → Bool} {S S2 : cm_S} (hc : cf_W W S S2) : ∀ {l : List (Int32 × Int32)}, (∀ d j, 16 ≤ d → d ≤ 17 → j < l.length → W d j = false) → ck_sk S l → ck_sk S2 l
  | [], _, _ => trivial
  | x :: r, hd, h => ⟨by rw [(hc _ _ (hd 16 r.length (by omega) (by omega) (by rw [List.length_cons]; omega))).1]; exact h.1, by rw [(hc _ _ (hd 17 r.length (by omega) (by omega) (by rw [List.length_cons]; omega))).1]; exact h.2.1, ck_sk_cf hc (fun d j q1 q2 q3 => hd d j q1 q2 (by rw [List.length_cons]; omega)) h.2.2⟩
def cW_sc (cnt b j : Nat) : Bool := decide (b = 9 ∧ j = 8 ∨ 18 ≤ b ∧ b ≤ 20 ∧ cnt ≤ j)
def cW_sk (r b j : Nat) : Bool := decide (b = 9 ∧ j = 4 ∨ 16 ≤ b ∧ b ≤ 17 ∧ r ≤ j)
def cW_bp (p r cnt b j : Nat) : Bool := decide (b = 9 ∨ 11 ≤ b ∧ b ≤ 15 ∧ p ≤ j ∨ 16 ≤ b ∧ b ≤ 17 ∧ r ≤ j ∨ 18 ≤ b ∧ b ≤ 20 ∧ cnt ≤ j)
def ct_is1 (k part : Int32) : Bool := if k = 6 then decide (part = 1) else if k = 12 then decide (part = 2) else true
section CP53
variable {L : Nat} {xs : Nat → Int32} {d : Nat} {S : cm_S} {K : cm_K}
theorem cp_6l {x q2 : Int32} : ∀ (n b turn : Nat) (s : Int32) (σ : Int32 → Int32) (K : cm_K), ck_ch S b n s σ → b ≤ 160 → turn + n ≤ 160 → K (.inl (some (.int (σ x)))) S 0 → cm_At (am_XX L xs) (d + 2) 6 5 [some (.ref 9), some (.int x), some (.int q2), some (.int s), some (.int (Int32.ofNat turn))] [] S K
  | 0, b, turn, s, σ, K, h, hb, ht, k => by
    obtain ⟨rfl, rfl⟩ := h
    exact cx_6_5 _ _ _ _ ⟨fun _ => ⟨fun _ => k, fun h => absurd rfl h⟩, fun _ => k⟩
  | n + 1, b, turn, s, σ, K, h, hb, ht, k => by
    obtain ⟨j, τ, h1, rfl, h3, rfl, h5⟩ := h
    refine cx_6_5 _ _ _ _ ⟨fun _ => ⟨fun h => absurd h (cp_m1 (by omega)), fun _ => ?_⟩, fun h => absurd (by rw [show (160 : Int32) = Int32.ofNat 160 from rfl, cp_lt (by omega) (by omega)]; omega) h⟩
    refine cp_166 (by decide) (cp_r1 ?_)
    rw [cp_g_at (show j < cm_rl 18 by show j < 160; omega) (by decide +kernel)]
    unfold ct_us at k
    rw [if_neg h3] at k
    refine ⟨fun hx => ?_, fun hx => ?_⟩
    · refine cp_166 (by decide) (cp_r1 ?_)
      rw [cp_g_at (show j < cm_rl 19 by show j < 160; omega) (by decide +kernel)]
      rw [if_pos hx.symm] at k
      exact k
    · refine cp_166 (by decide) (cp_r1 ?_)
      rw [cp_g_at (show j < cm_rl 20 by show j < 160; omega) (by decide +kernel)]
      rw [if_neg (fun hc => hx hc.symm)] at k
      rw [show Int32.ofNat turn + 1 = Int32.ofNat (turn + 1) from cp_ad (b := 1)]
      exact cp_6l n j (turn + 1) _ τ _ h5 (by omega) (by omega) k
theorem cp_6 {b n : Nat} {s x : Int32} {σ : Int32 → Int32} (h : ck_ch S b n s σ) (hb : b ≤ 160) (k : K (.inl (some (.int (σ x)))) S 0) : cm_At (am_XX L xs) (d + 2) 6 0 [some (.ref 9), some (.int x), some (.int s), none, none] [] S K :=
  cx_6_0 _ _ (cp_6l n b 0 s σ K h hb (by have := ck_ch_le h; omega) k)
theorem cp_5 {cnt n : Nat} {s x y : Int32} {σ : Int32 → Int32} (h : ck_ch S cnt n s σ) (hc : S.1 9 8 = Int32.ofNat cnt) (hb : cnt < 160) (k : ∀ S2 s2 n2 cnt2, cnt ≤ cnt2 → cnt2 ≤ cnt + 1 → S2.1 9 8 = Int32.ofNat cnt2 → ck_ch S2 cnt2 n2 s2 (ct_us σ x y) → cf_W (cW_sc cnt) S S2 → K (.inl (some (.int s2))) S2 0) :
    cm_At (am_XX L xs) (d + 2) 5 0 [some (.ref 9), some (.int x), some (.int y), some (.int s), none] [] S K := by
  refine cx_5_0 _ _ _ ⟨fun hx => ?_, fun hx => ?_⟩
  · subst hx
    exact k S s n cnt (Nat.le_refl _) (by omega) hc (by rw [ct_us_m1]; exact h) cf_rfl
  · rintro _ rfl
    rw [hc]
    refine cp_167 (by decide) (cp_r0 ?_)
    rw [cp_w_at (show cnt < cm_rl 18 from hb) (by decide +kernel)]
    refine cp_167 (by decide) (cp_r0 ?_)
    rw [cp_w_at (show cnt < cm_rl 19 from hb) (by decide +kernel)]
    refine cp_167 (by decide) (cp_r0 ?_)
    rw [cp_w_at (show cnt < cm_rl 20 from hb) (by decide +kernel)]
    rintro _ rfl
    rintro _ rfl
    have e1 : (cm_wI (cm_wI (cm_wI S 18 cnt x) 19 cnt y) 20 cnt s).1 9 8 + 1 = Int32.ofNat (cnt + 1) := by
      simp only [cp_wI1]
      rw [if_neg (by omega), if_neg (by omega), if_neg (by omega), hc]
      exact cp_ad (b := 1)
    rw [e1]
    have cf : cf_W (cW_sc cnt) S (cm_wI (cm_wI (cm_wI (cm_wI S 18 cnt x) 19 cnt y) 20 cnt s) 9 8 (Int32.ofNat (cnt + 1))) := cf_tr (cf_wI (decide_eq_true (by omega))) (cf_tr (cf_wI (decide_eq_true (by omega))) (cf_tr (cf_wI (decide_eq_true (by omega))) (cf_wI (decide_eq_true (by omega)))))
    refine k _ (Int32.ofNat cnt) (n + 1) (cnt + 1) (by omega) (Nat.le_refl _) (by rw [cp_wI1, if_pos ⟨rfl, rfl⟩]) ⟨cnt, σ, by omega, rfl, ?_, ?_, ?_⟩ cf
    · simp [cp_wI1]; exact hx
    · simp [cp_wI1]
    · have e2 : (cm_wI (cm_wI (cm_wI (cm_wI S 18 cnt x) 19 cnt y) 20 cnt s) 9 8 (Int32.ofNat (cnt + 1))).1 20 cnt = s := by simp [cp_wI1]
      rw [e2]
      exact ck_ch_cf cf (fun d j q1 q2 q3 => decide_eq_false (by omega)) h
theorem cp_4 {i s : Int32} {l : List (Int32 × Int32)} (h : S.1 9 4 = Int32.ofNat l.length) (hs : ck_sk S l) (hl : l.length < 240) (k : ∀ S2, S2.1 9 4 = Int32.ofNat (l.length + 1) → ck_sk S2 ((i, s) :: l) → cf_W (cW_sk l.length) S S2 → K (.inl none) S2 0) :
    cm_At (am_XX L xs) (d + 2) 4 0 [some (.ref 9), some (.int i), some (.int s)] [] S K := by
  refine cx_4_0 _ _ ?_
  rintro _ rfl
  rw [h]
  refine cp_167 (by decide) (cp_r0 ?_)
  rw [cp_w_at (show l.length < cm_rl 16 from hl) (by decide +kernel)]
  rintro _ rfl
  rw [cp_wI1, if_neg (by omega), h]
  refine cp_167 (by decide) (cp_r0 ?_)
  rw [cp_w_at (show l.length < cm_rl 17 from hl) (by decide +kernel)]
  rintro _ rfl
  rintro _ rfl
  have e1 : (cm_wI (cm_wI S 16 l.length i) 17 l.length s).1 9 4 + 1 = Int32.ofNat (l.length + 1) := by
    simp only [cp_wI1]
    rw [if_neg (by omega), if_neg (by omega), h]
    exact cp_ad (b := 1)
  rw [e1]
  have cf : cf_W (cW_sk l.length) S (cm_wI (cm_wI (cm_wI S 16 l.length i) 17 l.length s) 9 4 (Int32.ofNat (l.length + 1))) := cf_tr (cf_wI (decide_eq_true (by omega))) (cf_tr (cf_wI (decide_eq_true (by omega))) (cf_wI (decide_eq_true (by omega))))
  refine k _ (by rw [cp_wI1, if_pos ⟨rfl, rfl⟩]) ⟨by simp [cp_wI1], by simp [cp_wI1], ?_⟩ cf
  exact ck_sk_cf cf (fun d j q1 q2 q3 => decide_eq_false (by omega)) hs
theorem cp_3 {kd part : Int32} (k : K (.inl (some (.int (if ct_is1 kd part = true then 1 else 0)))) S 0) : cm_At (am_XX L xs) (d + 1) 3 0 [some (.int kd), some (.int part)] [] S K := by
  unfold ct_is1 at k
  refine cx_3_0 _ _ ?_
  rw [cp_k6 (n := 6) (m := 6) rfl, cp_k6 (n := 12) (m := 12) rfl]
  refine ⟨fun h => ⟨fun h2 => ⟨Or.inr rfl, ?_⟩, fun h2 => ⟨Or.inl rfl, ?_⟩⟩, fun h => ⟨fun h1 => ⟨fun h2 => ⟨Or.inr rfl, ?_⟩, fun h2 => ⟨Or.inl rfl, ?_⟩⟩, fun h1 => ⟨Or.inr rfl, ?_⟩⟩⟩
  · rw [if_pos h, decide_eq_true h2] at k; exact k
  · rw [if_pos h, decide_eq_false h2] at k; exact k
  · rw [if_neg h, if_pos h1, decide_eq_true h2] at k; exact k
  · rw [if_neg h, if_pos h1, decide_eq_false h2] at k; exact k
  · rw [if_neg h, if_neg h1] at k; exact k
/-- the parts pushed: the first is on top -/
def ct_pl (g : Nat → Int32 × Int32) : Nat → List (Int32 × Int32) → List (Int32 × Int32)
  | 0, l => l
  | n + 1, l => ct_pl g n (g n :: l)
theorem ct_pl_len {g : Nat → Int32 × Int32} : ∀ {n : Nat} {l : List (Int32 × Int32)}, (ct_pl g n l).length = n + l.length
  | 0, l => by rw [Nat.zero_add]; rfl
  | n + 1, l => by
    show (ct_pl g n (g n :: l)).length = _
    rw [ct_pl_len, List.length_cons]; omega
theorem cp_2l {i : Nat} {p s2 s kd q5 q6 q7 q8 : Int32} (hi : i < 120) : ∀ (n : Nat) (l : List (Int32 × Int32)) (S : cm_S) (K : cm_K), n ≤ 3 → l.length + n ≤ 240 → S.1 9 4 = Int32.ofNat l.length → ck_sk S l →
    (∀ S2, S2.1 9 4 = Int32.ofNat (l.length + n) → ck_sk S2 (ct_pl (fun m => (S.1 8 (3 * i + m), if ct_is1 kd (Int32.ofNat m) = true then s2 else s)) n l) → cf_W (cW_sk l.length) S S2 → K (.inl (some (.int 1))) S2 0) →
    cm_At (am_XX L xs) (d + 3) 2 168 [some (.ref 9), some (.int p), some (.int (Int32.ofNat i)), some (.int s), some (.int kd), some (.int q5), some (.int q6), some (.int q7), some (.int q8), some (.int s2), some (.int (Int32.ofNat n - 1))] [] S K
  | 0, l, S, K, hn, hl, h, hs, k => cx_2_168 _ _ _ _ _ _ _ _ _ _ ⟨fun _ => ⟨Or.inr rfl, k S h hs cf_rfl⟩, fun h => absurd (by decide) h⟩
  | n + 1, l, S, K, hn, hl, h, hs, k => by
    rw [cp_s1]
    refine cx_2_168 _ _ _ _ _ _ _ _ _ _ ⟨fun h => absurd h (cp_nn (by omega)), fun _ => ?_⟩
    refine cx_75_0 _ _ ?_
    rw [show (3 : Int32) = Int32.ofNat 3 from rfl, cp_ml, cp_ad]
    refine cp_166 (by decide) (cp_r1 ?_)
    rw [cp_g_at (show 3 * i + n < cm_rl 8 by show _ < 360; omega) (by decide +kernel)]
    try dsimp only [cm_sh]
    refine cp_r1 ?_
    refine cp_3 (cp_r1 ?_)
    have go : ∀ sc (K2 : cm_K), sc = (if ct_is1 kd (Int32.ofNat n) = true then s2 else s) → (∀ S3 v, K (.inl v) S3 0 → K2 (.inl v) S3 0) → cm_At (am_XX L xs) (d + 2) 4 0 [some (.ref 9), some (.int (S.1 8 (3 * i + n))), some (.int sc)] [] S (fun r S9 k10 => cm_r0 (cm_At (am_XX L xs) (d + 3) 2 168 [some (.ref 9), some (.int p), some (.int (Int32.ofNat i)), some (.int s), some (.int kd), some (.int q5), some (.int q6), some (.int q7), some (.int q8), some (.int s2), some (.int (Int32.ofNat n + (-1 : Int32)))] [] S9 (cm_sh K2 k10)) (fun e11 => K2 (.inr e11) S9 k10) r) := by
      intro sc K2 hsc hK
      refine cp_4 (l := l) h hs (by omega) (fun S2 h2 hs2 c2 => cp_r0 ?_)
      rw [cp_pm1]
      refine cp_2l hi n ((S.1 8 (3 * i + n), sc) :: l) S2 _ (by omega) (by rw [List.length_cons]; omega) h2 hs2 (fun S3 h3 hs3 c3 => hK S3 _ (k S3 ?_ ?_ (cf_tr c2 (cf_mono c3 (fun b j hb => decide_eq_true ?_)))))
      · rw [h3, List.length_cons]; congr 1; omega
      · have e8 : (fun m => (S2.1 8 (3 * i + m), if ct_is1 kd (Int32.ofNat m) = true then s2 else s)) = (fun m => (S.1 8 (3 * i + m), if ct_is1 kd (Int32.ofNat m) = true then s2 else s)) := by
          funext m
          rw [(c2 8 (3 * i + m) (decide_eq_false (by omega))).1]
        rw [e8, hsc] at hs3
        exact hs3
      · have hb := of_decide_eq_true hb
        rw [List.length_cons] at hb
        omega
    cases hsc : ct_is1 kd (Int32.ofNat n) with
    | true =>
      rw [if_pos rfl]
      exact ⟨fun h => absurd h (by decide), fun _ => go s2 _ (by rw [hsc, if_pos rfl]) (fun S3 v h => h)⟩
    | false =>
      rw [if_neg (by decide)]
      exact ⟨fun _ => go s _ (by rw [hsc, if_neg (by decide)]) (fun S3 v h => h), fun h => absurd rfl h⟩
end CP53
