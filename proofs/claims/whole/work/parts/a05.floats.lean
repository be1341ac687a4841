/-! ## a05 Passes of the class: floats, arity -/
set_option maxRecDepth 100000
set_option maxHeartbeats 4000000
theorem cw_95_0 {P : cm_P} {L : Nat} {xs : Nat → Int32} {d : Nat} {S : cm_S} {K : cm_K} (p0 : Int32) (h : P d 15 0 [some (.ref 44), some (.int p0)] [] S (fun r S1 k2 => cm_r1 (fun x4 => P d 8 0 [some (.ref 44), some (.int x4)] [] S1 (fun r S5 k6 => cm_r1 (fun x8 => (x8 = (12 : Int32) → (P (d + 1) 95 35 [some (.ref 37), some (.int p0), some (.int x4), none, none, none, none] [] S5 (cm_sh (cm_sh K k2) k6))) ∧ (¬ x8 = (12 : Int32) → (P d 8 0 [some (.ref 44), some (.int x4)] [] S5 (fun r S9 k10 => cm_r1 (fun x12 => (x12 = (13 : Int32) → (P (d + 1) 95 35 [some (.ref 37), some (.int p0), some (.int x4), none, none, none, none] [] S9 (cm_sh (cm_sh (cm_sh K k2) k6) k10))) ∧ (¬ x12 = (13 : Int32) → (P (d + 1) 95 41 [some (.ref 37), some (.int p0), some (.int x4), some (.int (0 : Int32)), none, none, none] [] S9 (cm_sh (cm_sh (cm_sh K k2) k6) k10)))) (fun e11 => (cm_sh (cm_sh K k2) k6) (.inr e11) S9 k10) r)))) (fun e7 => (cm_sh K k2) (.inr e7) S5 k6) r)) (fun e3 => K (.inr e3) S1 k2) r)) : cm_st P (am_XX L xs) d cb_95 [] (cm_go P (am_XX L xs) d 95 cb_95 [] [35, 41, 58, 97, 124, 151, 256] 400) 0 [some (.ref 37), some (.int p0), none, none, none, none, none] [] S K := h
theorem cz_95_0 {L : Nat} {xs : Nat → Int32} {d : Nat} {S : cm_S} {K : cm_K} (p0 : Int32) (h : cm_At (am_XX L xs) d 15 0 [some (.ref 44), some (.int p0)] [] S (fun r S1 k2 => cm_r1 (fun x4 => cm_At (am_XX L xs) d 8 0 [some (.ref 44), some (.int x4)] [] S1 (fun r S5 k6 => cm_r1 (fun x8 => (x8 = (12 : Int32) → (cm_At (am_XX L xs) (d + 1) 95 35 [some (.ref 37), some (.int p0), some (.int x4), none, none, none, none] [] S5 (cm_sh (cm_sh K k2) k6))) ∧ (¬ x8 = (12 : Int32) → (cm_At (am_XX L xs) d 8 0 [some (.ref 44), some (.int x4)] [] S5 (fun r S9 k10 => cm_r1 (fun x12 => (x12 = (13 : Int32) → (cm_At (am_XX L xs) (d + 1) 95 35 [some (.ref 37), some (.int p0), some (.int x4), none, none, none, none] [] S9 (cm_sh (cm_sh (cm_sh K k2) k6) k10))) ∧ (¬ x12 = (13 : Int32) → (cm_At (am_XX L xs) (d + 1) 95 41 [some (.ref 37), some (.int p0), some (.int x4), some (.int (0 : Int32)), none, none, none] [] S9 (cm_sh (cm_sh (cm_sh K k2) k6) k10)))) (fun e11 => (cm_sh (cm_sh K k2) k6) (.inr e11) S9 k10) r)))) (fun e7 => (cm_sh K k2) (.inr e7) S5 k6) r)) (fun e3 => K (.inr e3) S1 k2) r)) : cm_At (am_XX L xs) (d + 1) 95 0 [some (.ref 37), some (.int p0), none, none, none, none, none] [] S K := cm_go1 (show am_TT 95 = some (am_B95, 7, []) from rfl) cb_95_ok (cw_95_0 (P := cm_At (am_XX L xs)) p0 h)
theorem cw_95_35 {P : cm_P} {L : Nat} {xs : Nat → Int32} {d : Nat} {S : cm_S} {K : cm_K} (q1 : Int32) (q2 : Int32) (h : P (d + 1) 95 41 [some (.ref 37), some (.int q1), some (.int q2), some (.int (1 : Int32)), none, none, none] [] S K) : cm_st P (am_XX L xs) d cb_95 [] (cm_go P (am_XX L xs) d 95 cb_95 [] [35, 41, 58, 97, 124, 151, 256] 400) 35 [some (.ref 37), some (.int q1), some (.int q2), none, none, none, none] [] S K := h
theorem cz_95_35 {L : Nat} {xs : Nat → Int32} {d : Nat} {S : cm_S} {K : cm_K} (q1 : Int32) (q2 : Int32) (h : cm_At (am_XX L xs) (d + 1) 95 41 [some (.ref 37), some (.int q1), some (.int q2), some (.int (1 : Int32)), none, none, none] [] S K) : cm_At (am_XX L xs) (d + 1) 95 35 [some (.ref 37), some (.int q1), some (.int q2), none, none, none, none] [] S K := cm_go1 (show am_TT 95 = some (am_B95, 7, []) from rfl) cb_95_ok (cw_95_35 (P := cm_At (am_XX L xs)) q1 q2 h)
theorem cw_95_41 {P : cm_P} {L : Nat} {xs : Nat → Int32} {d : Nat} {S : cm_S} {K : cm_K} (q1 : Int32) (q2 : Int32) (q3 : Int32) (h : P d 8 0 [some (.ref 44), some (.int q1)] [] S (fun r S1 k2 => cm_r1 (fun x4 => (x4 = (6 : Int32) → ((q3 = 0 → (P (d + 1) 95 58 [some (.ref 37), some (.int q1), some (.int q2), some (.int q3), none, none, none] [] S1 (cm_sh K k2))) ∧ (¬ q3 = 0 → (P d 9 0 [some (.ref 44), some (.int q1)] [] S1 (fun r S5 k6 => cm_r1 (fun x8 => P d 15 0 [some (.ref 44), some (.int q2)] [] S5 (fun r S9 k10 => cm_r1 (fun x12 => P d 25 0 [some (.ref 44), some (.int x8), some (.int x12), none, none, none] [] S9 (fun r S13 k14 => cm_r1 (fun x16 => (0 < x16 → (P (d + 1) 95 97 [some (.ref 37), some (.int q1), some (.int q2), some (.int q3), some (.int x8), some (.int (1 : Int32)), none] [] S13 (cm_sh (cm_sh (cm_sh (cm_sh K k2) k6) k10) k14))) ∧ (¬ 0 < x16 → (P (d + 1) 95 97 [some (.ref 37), some (.int q1), some (.int q2), some (.int q3), some (.int x8), some (.int (0 : Int32)), none] [] S13 (cm_sh (cm_sh (cm_sh (cm_sh K k2) k6) k10) k14)))) (fun e15 => (cm_sh (cm_sh (cm_sh K k2) k6) k10) (.inr e15) S13 k14) r)) (fun e11 => (cm_sh (cm_sh K k2) k6) (.inr e11) S9 k10) r)) (fun e7 => (cm_sh K k2) (.inr e7) S5 k6) r))))) ∧ (¬ x4 = (6 : Int32) → (P (d + 1) 95 58 [some (.ref 37), some (.int q1), some (.int q2), some (.int q3), none, none, none] [] S1 (cm_sh K k2)))) (fun e3 => K (.inr e3) S1 k2) r)) : cm_st P (am_XX L xs) d cb_95 [] (cm_go P (am_XX L xs) d 95 cb_95 [] [35, 41, 58, 97, 124, 151, 256] 400) 41 [some (.ref 37), some (.int q1), some (.int q2), some (.int q3), none, none, none] [] S K := h
theorem cz_95_41 {L : Nat} {xs : Nat → Int32} {d : Nat} {S : cm_S} {K : cm_K} (q1 : Int32) (q2 : Int32) (q3 : Int32) (h : cm_At (am_XX L xs) d 8 0 [some (.ref 44), some (.int q1)] [] S (fun r S1 k2 => cm_r1 (fun x4 => (x4 = (6 : Int32) → ((q3 = 0 → (cm_At (am_XX L xs) (d + 1) 95 58 [some (.ref 37), some (.int q1), some (.int q2), some (.int q3), none, none, none] [] S1 (cm_sh K k2))) ∧ (¬ q3 = 0 → (cm_At (am_XX L xs) d 9 0 [some (.ref 44), some (.int q1)] [] S1 (fun r S5 k6 => cm_r1 (fun x8 => cm_At (am_XX L xs) d 15 0 [some (.ref 44), some (.int q2)] [] S5 (fun r S9 k10 => cm_r1 (fun x12 => cm_At (am_XX L xs) d 25 0 [some (.ref 44), some (.int x8), some (.int x12), none, none, none] [] S9 (fun r S13 k14 => cm_r1 (fun x16 => (0 < x16 → (cm_At (am_XX L xs) (d + 1) 95 97 [some (.ref 37), some (.int q1), some (.int q2), some (.int q3), some (.int x8), some (.int (1 : Int32)), none] [] S13 (cm_sh (cm_sh (cm_sh (cm_sh K k2) k6) k10) k14))) ∧ (¬ 0 < x16 → (cm_At (am_XX L xs) (d + 1) 95 97 [some (.ref 37), some (.int q1), some (.int q2), some (.int q3), some (.int x8), some (.int (0 : Int32)), none] [] S13 (cm_sh (cm_sh (cm_sh (cm_sh K k2) k6) k10) k14)))) (fun e15 => (cm_sh (cm_sh (cm_sh K k2) k6) k10) (.inr e15) S13 k14) r)) (fun e11 => (cm_sh (cm_sh K k2) k6) (.inr e11) S9 k10) r)) (fun e7 => (cm_sh K k2) (.inr e7) S5 k6) r))))) ∧ (¬ x4 = (6 : Int32) → (cm_At (am_XX L xs) (d + 1) 95 58 [some (.ref 37), some (.int q1), some (.int q2), some (.int q3), none, none, none] [] S1 (cm_sh K k2)))) (fun e3 => K (.inr e3) S1 k2) r)) : cm_At (am_XX L xs) (d + 1) 95 41 [some (.ref 37), some (.int q1), some (.int q2), some (.int q3), none, none, none] [] S K := cm_go1 (show am_TT 95 = some (am_B95, 7, []) from rfl) cb_95_ok (cw_95_41 (P := cm_At (am_XX L xs)) q1 q2 q3 h)
theorem cw_95_58 {P : cm_P} {L : Nat} {xs : Nat → Int32} {d : Nat} {S : cm_S} {K : cm_K} (q1 : Int32) (q2 : Int32) (q3 : Int32) (h : ((0 : Int32) = 0 ∨ (0 : Int32) = 1) ∧ K (.inl (some (.int (0 : Int32)))) S 0) : cm_st P (am_XX L xs) d cb_95 [] (cm_go P (am_XX L xs) d 95 cb_95 [] [35, 41, 58, 97, 124, 151, 256] 400) 58 [some (.ref 37), some (.int q1), some (.int q2), some (.int q3), none, none, none] [] S K := h
theorem cz_95_58 {L : Nat} {xs : Nat → Int32} {d : Nat} {S : cm_S} {K : cm_K} (q1 : Int32) (q2 : Int32) (q3 : Int32) (h : ((0 : Int32) = 0 ∨ (0 : Int32) = 1) ∧ K (.inl (some (.int (0 : Int32)))) S 0) : cm_At (am_XX L xs) (d + 1) 95 58 [some (.ref 37), some (.int q1), some (.int q2), some (.int q3), none, none, none] [] S K := cm_go1 (show am_TT 95 = some (am_B95, 7, []) from rfl) cb_95_ok (cw_95_58 (P := cm_At (am_XX L xs)) q1 q2 q3 h)
theorem cw_95_97 {P : cm_P} {L : Nat} {xs : Nat → Int32} {d : Nat} {S : cm_S} {K : cm_K} (q1 : Int32) (q2 : Int32) (q3 : Int32) (q4 : Int32) (q5 : Int32) (h : P d 16 0 [some (.ref 44), some (.int q2)] [] S (fun r S1 k2 => cm_r1 (fun x4 => P d 25 0 [some (.ref 44), some (.int q4), some (.int x4), none, none, none] [] S1 (fun r S5 k6 => cm_r1 (fun x8 => (0 < x8 → (P (d + 1) 95 124 [some (.ref 37), some (.int q1), some (.int q2), some (.int q3), some (.int q4), some (.int q5), some (.int (1 : Int32))] [] S5 (cm_sh (cm_sh K k2) k6))) ∧ (¬ 0 < x8 → (P (d + 1) 95 124 [some (.ref 37), some (.int q1), some (.int q2), some (.int q3), some (.int q4), some (.int q5), some (.int (0 : Int32))] [] S5 (cm_sh (cm_sh K k2) k6)))) (fun e7 => (cm_sh K k2) (.inr e7) S5 k6) r)) (fun e3 => K (.inr e3) S1 k2) r)) : cm_st P (am_XX L xs) d cb_95 [] (cm_go P (am_XX L xs) d 95 cb_95 [] [35, 41, 58, 97, 124, 151, 256] 400) 97 [some (.ref 37), some (.int q1), some (.int q2), some (.int q3), some (.int q4), some (.int q5), none] [] S K := h
theorem cz_95_97 {L : Nat} {xs : Nat → Int32} {d : Nat} {S : cm_S} {K : cm_K} (q1 : Int32) (q2 : Int32) (q3 : Int32) (q4 : Int32) (q5 : Int32) (h : cm_At (am_XX L xs) d 16 0 [some (.ref 44), some (.int q2)] [] S (fun r S1 k2 => cm_r1 (fun x4 => cm_At (am_XX L xs) d 25 0 [some (.ref 44), some (.int q4), some (.int x4), none, none, none] [] S1 (fun r S5 k6 => cm_r1 (fun x8 => (0 < x8 → (cm_At (am_XX L xs) (d + 1) 95 124 [some (.ref 37), some (.int q1), some (.int q2), some (.int q3), some (.int q4), some (.int q5), some (.int (1 : Int32))] [] S5 (cm_sh (cm_sh K k2) k6))) ∧ (¬ 0 < x8 → (cm_At (am_XX L xs) (d + 1) 95 124 [some (.ref 37), some (.int q1), some (.int q2), some (.int q3), some (.int q4), some (.int q5), some (.int (0 : Int32))] [] S5 (cm_sh (cm_sh K k2) k6)))) (fun e7 => (cm_sh K k2) (.inr e7) S5 k6) r)) (fun e3 => K (.inr e3) S1 k2) r)) : cm_At (am_XX L xs) (d + 1) 95 97 [some (.ref 37), some (.int q1), some (.int q2), some (.int q3), some (.int q4), some (.int q5), none] [] S K := cm_go1 (show am_TT 95 = some (am_B95, 7, []) from rfl) cb_95_ok (cw_95_97 (P := cm_At (am_XX L xs)) q1 q2 q3 q4 q5 h)
theorem cw_95_124 {P : cm_P} {L : Nat} {xs : Nat → Int32} {d : Nat} {S : cm_S} {K : cm_K} (q1 : Int32) (q2 : Int32) (q3 : Int32) (q4 : Int32) (q5 : Int32) (q6 : Int32) (h : P d 14 0 [some (.ref 44), some (.int q2)] [] S (fun r S1 k2 => cm_r1 (fun x4 => P d 25 0 [some (.ref 44), some (.int q4), some (.int x4), none, none, none] [] S1 (fun r S5 k6 => cm_r1 (fun x8 => (0 < x8 → (P (d + 1) 95 151 [some (.ref 37), some (.int q1), some (.int q2), some (.int q3), some (.int q4), some (.int q5), some (.int q6)] [] S5 (cm_sh (cm_sh K k2) k6))) ∧ (¬ 0 < x8 → ((q5 = q6 → (P (d + 1) 95 151 [some (.ref 37), some (.int q1), some (.int q2), some (.int q3), some (.int q4), some (.int q5), some (.int q6)] [] S5 (cm_sh (cm_sh K k2) k6))) ∧ (¬ q5 = q6 → (P d 51 0 [some (.ref 50), some (.ref 44), some (.int q2)] [] S5 (fun r S9 k10 => cm_r0 (P d 14 0 [some (.ref 44), some (.int q2)] [] S9 (fun r S12 k13 => cm_r1 (fun x15 => P d 52 0 [some (.ref 50), some (.ref 44), some (.int x15), none, none] [] S12 (fun r S16 k17 => cm_r0 ((q5 = 0 → (P d 15 0 [some (.ref 44), some (.int q2)] [] S16 (fun r S19 k20 => cm_r1 (fun x22 => P d 52 0 [some (.ref 50), some (.ref 44), some (.int x22), none, none] [] S19 (fun r S23 k24 => cm_r0 (P d 16 0 [some (.ref 44), some (.int q2)] [] S23 (fun r S26 k27 => cm_r1 (fun x29 => P d 96 0 [some (.ref 37), some (.int q1), some (.int x29)] [] S26 (fun r S30 k31 => cm_r0 (P (d + 1) 95 256 [some (.ref 37), some (.int q1), some (.int q2), some (.int q3), some (.int q4), some (.int q5), some (.int q6)] [] S30 (cm_sh (cm_sh (cm_sh (cm_sh (cm_sh (cm_sh (cm_sh (cm_sh (cm_sh K k2) k6) k10) k13) k17) k20) k24) k27) k31)) (fun e32 => (cm_sh (cm_sh (cm_sh (cm_sh (cm_sh (cm_sh (cm_sh (cm_sh K k2) k6) k10) k13) k17) k20) k24) k27) (.inr e32) S30 k31) r)) (fun e28 => (cm_sh (cm_sh (cm_sh (cm_sh (cm_sh (cm_sh (cm_sh K k2) k6) k10) k13) k17) k20) k24) (.inr e28) S26 k27) r)) (fun e25 => (cm_sh (cm_sh (cm_sh (cm_sh (cm_sh (cm_sh K k2) k6) k10) k13) k17) k20) (.inr e25) S23 k24) r)) (fun e21 => (cm_sh (cm_sh (cm_sh (cm_sh (cm_sh K k2) k6) k10) k13) k17) (.inr e21) S19 k20) r))) ∧ (¬ q5 = 0 → (P d 15 0 [some (.ref 44), some (.int q2)] [] S16 (fun r S33 k34 => cm_r1 (fun x36 => P d 96 0 [some (.ref 37), some (.int q1), some (.int x36)] [] S33 (fun r S37 k38 => cm_r0 (P d 16 0 [some (.ref 44), some (.int q2)] [] S37 (fun r S40 k41 => cm_r1 (fun x43 => P d 52 0 [some (.ref 50), some (.ref 44), some (.int x43), none, none] [] S40 (fun r S44 k45 => cm_r0 (P (d + 1) 95 256 [some (.ref 37), some (.int q1), some (.int q2), some (.int q3), some (.int q4), some (.int q5), some (.int q6)] [] S44 (cm_sh (cm_sh (cm_sh (cm_sh (cm_sh (cm_sh (cm_sh (cm_sh (cm_sh K k2) k6) k10) k13) k17) k34) k38) k41) k45)) (fun e46 => (cm_sh (cm_sh (cm_sh (cm_sh (cm_sh (cm_sh (cm_sh (cm_sh K k2) k6) k10) k13) k17) k34) k38) k41) (.inr e46) S44 k45) r)) (fun e42 => (cm_sh (cm_sh (cm_sh (cm_sh (cm_sh (cm_sh (cm_sh K k2) k6) k10) k13) k17) k34) k38) (.inr e42) S40 k41) r)) (fun e39 => (cm_sh (cm_sh (cm_sh (cm_sh (cm_sh (cm_sh K k2) k6) k10) k13) k17) k34) (.inr e39) S37 k38) r)) (fun e35 => (cm_sh (cm_sh (cm_sh (cm_sh (cm_sh K k2) k6) k10) k13) k17) (.inr e35) S33 k34) r)))) (fun e18 => (cm_sh (cm_sh (cm_sh (cm_sh K k2) k6) k10) k13) (.inr e18) S16 k17) r)) (fun e14 => (cm_sh (cm_sh (cm_sh K k2) k6) k10) (.inr e14) S12 k13) r)) (fun e11 => (cm_sh (cm_sh K k2) k6) (.inr e11) S9 k10) r)))))) (fun e7 => (cm_sh K k2) (.inr e7) S5 k6) r)) (fun e3 => K (.inr e3) S1 k2) r)) : cm_st P (am_XX L xs) d cb_95 [] (cm_go P (am_XX L xs) d 95 cb_95 [] [35, 41, 58, 97, 124, 151, 256] 400) 124 [some (.ref 37), some (.int q1), some (.int q2), some (.int q3), some (.int q4), some (.int q5), some (.int q6)] [] S K := h
theorem cz_95_124 {L : Nat} {xs : Nat → Int32} {d : Nat} {S : cm_S} {K : cm_K} (q1 : Int32) (q2 : Int32) (q3 : Int32) (q4 : Int32) (q5 : Int32) (q6 : Int32) (h : cm_At (am_XX L xs) d 14 0 [some (.ref 44), some (.int q2)] [] S (fun r S1 k2 => cm_r1 (fun x4 => cm_At (am_XX L xs) d 25 0 [some (.ref 44), some (.int q4), some (.int x4), none, none, none] [] S1 (fun r S5 k6 => cm_r1 (fun x8 => (0 < x8 → (cm_At (am_XX L xs) (d + 1) 95 151 [some (.ref 37), some (.int q1), some (.int q2), some (.int q3), some (.int q4), some (.int q5), some (.int q6)] [] S5 (cm_sh (cm_sh K k2) k6))) ∧ (¬ 0 < x8 → ((q5 = q6 → (cm_At (am_XX L xs) (d + 1) 95 151 [some (.ref 37), some (.int q1), some (.int q2), some (.int q3), some (.int q4), some (.int q5), some (.int q6)] [] S5 (cm_sh (cm_sh K k2) k6))) ∧ (¬ q5 = q6 → (cm_At (am_XX L xs) d 51 0 [some (.ref 50), some (.ref 44), some (.int q2)] [] S5 (fun r S9 k10 => cm_r0 (cm_At (am_XX L xs) d 14 0 [some (.ref 44), some (.int q2)] [] S9 (fun r S12 k13 => cm_r1 (fun x15 => cm_At (am_XX L xs) d 52 0 [some (.ref 50), some (.ref 44), some (.int x15), none, none] [] S12 (fun r S16 k17 => cm_r0 ((q5 = 0 → (cm_At (am_XX L xs) d 15 0 [some (.ref 44), some (.int q2)] [] S16 (fun r S19 k20 => cm_r1 (fun x22 => cm_At (am_XX L xs) d 52 0 [some (.ref 50), some (.ref 44), some (.int x22), none, none] [] S19 (fun r S23 k24 => cm_r0 (cm_At (am_XX L xs) d 16 0 [some (.ref 44), some (.int q2)] [] S23 (fun r S26 k27 => cm_r1 (fun x29 => cm_At (am_XX L xs) d 96 0 [some (.ref 37), some (.int q1), some (.int x29)] [] S26 (fun r S30 k31 => cm_r0 (cm_At (am_XX L xs) (d + 1) 95 256 [some (.ref 37), some (.int q1), some (.int q2), some (.int q3), some (.int q4), some (.int q5), some (.int q6)] [] S30 (cm_sh (cm_sh (cm_sh (cm_sh (cm_sh (cm_sh (cm_sh (cm_sh (cm_sh K k2) k6) k10) k13) k17) k20) k24) k27) k31)) (fun e32 => (cm_sh (cm_sh (cm_sh (cm_sh (cm_sh (cm_sh (cm_sh (cm_sh K k2) k6) k10) k13) k17) k20) k24) k27) (.inr e32) S30 k31) r)) (fun e28 => (cm_sh (cm_sh (cm_sh (cm_sh (cm_sh (cm_sh (cm_sh K k2) k6) k10) k13) k17) k20) k24) (.inr e28) S26 k27) r)) (fun e25 => (cm_sh (cm_sh (cm_sh (cm_sh (cm_sh (cm_sh K k2) k6) k10) k13) k17) k20) (.inr e25) S23 k24) r)) (fun e21 => (cm_sh (cm_sh (cm_sh (cm_sh (cm_sh K k2) k6) k10) k13) k17) (.inr e21) S19 k20) r))) ∧ (¬ q5 = 0 → (cm_At (am_XX L xs) d 15 0 [some (.ref 44), some (.int q2)] [] S16 (fun r S33 k34 => cm_r1 (fun x36 => cm_At (am_XX L xs) d 96 0 [some (.ref 37), some (.int q1), some (.int x36)] [] S33 (fun r S37 k38 => cm_r0 (cm_At (am_XX L xs) d 16 0 [some (.ref 44), some (.int q2)] [] S37 (fun r S40 k41 => cm_r1 (fun x43 => cm_At (am_XX L xs) d 52 0 [some (.ref 50), some (.ref 44), some (.int x43), none, none] [] S40 (fun r S44 k45 => cm_r0 (cm_At (am_XX L xs) (d + 1) 95 256 [some (.ref 37), some (.int q1), some (.int q2), some (.int q3), some (.int q4), some (.int q5), some (.int q6)] [] S44 (cm_sh (cm_sh (cm_sh (cm_sh (cm_sh (cm_sh (cm_sh (cm_sh (cm_sh K k2) k6) k10) k13) k17) k34) k38) k41) k45)) (fun e46 => (cm_sh (cm_sh (cm_sh (cm_sh (cm_sh (cm_sh (cm_sh (cm_sh K k2) k6) k10) k13) k17) k34) k38) k41) (.inr e46) S44 k45) r)) (fun e42 => (cm_sh (cm_sh (cm_sh (cm_sh (cm_sh (cm_sh (cm_sh K k2) k6) k10) k13) k17) k34) k38) (.inr e42) S40 k41) r)) (fun e39 => (cm_sh (cm_sh (cm_sh (cm_sh (cm_sh (cm_sh K k2) k6) k10) k13) k17) k34) (.inr e39) S37 k38) r)) (fun e35 => (cm_sh (cm_sh (cm_sh (cm_sh (cm_sh K k2) k6) k10) k13) k17) (.inr e35) S33 k34) r)))) (fun e18 => (cm_sh (cm_sh (cm_sh (cm_sh K k2) k6) k10) k13) (.inr e18) S16 k17) r)) (fun e14 => (cm_sh (cm_sh (cm_sh K k2) k6) k10) (.inr e14) S12 k13) r)) (fun e11 => (cm_sh (cm_sh K k2) k6) (.inr e11) S9 k10) r)))))) (fun e7 => (cm_sh K k2) (.inr e7) S5 k6) r)) (fun e3 => K (.inr e3) S1 k2) r)) : cm_At (am_XX L xs) (d + 1) 95 124 [some (.ref 37), some (.int q1), some (.int q2), some (.int q3), some (.int q4), some (.int q5), some (.int q6)] [] S K := cm_go1 (show am_TT 95 = some (am_B95, 7, []) from rfl) cb_95_ok (cw_95_124 (P := cm_At (am_XX L xs)) q1 q2 q3 q4 q5 q6 h)
theorem cw_95_151 {P : cm_P} {L : Nat} {xs : Nat → Int32} {d : Nat} {S : cm_S} {K : cm_K} (q1 : Int32) (q2 : Int32) (q3 : Int32) (q4 : Int32) (q5 : Int32) (q6 : Int32) (h : ((0 : Int32) = 0 ∨ (0 : Int32) = 1) ∧ K (.inl (some (.int (0 : Int32)))) S 0) : cm_st P (am_XX L xs) d cb_95 [] (cm_go P (am_XX L xs) d 95 cb_95 [] [35, 41, 58, 97, 124, 151, 256] 400) 151 [some (.ref 37), some (.int q1), some (.int q2), some (.int q3), some (.int q4), some (.int q5), some (.int q6)] [] S K := h
theorem cz_95_151 {L : Nat} {xs : Nat → Int32} {d : Nat} {S : cm_S} {K : cm_K} (q1 : Int32) (q2 : Int32) (q3 : Int32) (q4 : Int32) (q5 : Int32) (q6 : Int32) (h : ((0 : Int32) = 0 ∨ (0 : Int32) = 1) ∧ K (.inl (some (.int (0 : Int32)))) S 0) : cm_At (am_XX L xs) (d + 1) 95 151 [some (.ref 37), some (.int q1), some (.int q2), some (.int q3), some (.int q4), some (.int q5), some (.int q6)] [] S K := cm_go1 (show am_TT 95 = some (am_B95, 7, []) from rfl) cb_95_ok (cw_95_151 (P := cm_At (am_XX L xs)) q1 q2 q3 q4 q5 q6 h)
theorem cw_95_256 {P : cm_P} {L : Nat} {xs : Nat → Int32} {d : Nat} {S : cm_S} {K : cm_K} (q1 : Int32) (q2 : Int32) (q3 : Int32) (q4 : Int32) (q5 : Int32) (q6 : Int32) (h : ((1 : Int32) = 0 ∨ (1 : Int32) = 1) ∧ K (.inl (some (.int (1 : Int32)))) S 0) : cm_st P (am_XX L xs) d cb_95 [] (cm_go P (am_XX L xs) d 95 cb_95 [] [35, 41, 58, 97, 124, 151, 256] 400) 256 [some (.ref 37), some (.int q1), some (.int q2), some (.int q3), some (.int q4), some (.int q5), some (.int q6)] [] S K := h
theorem cz_95_256 {L : Nat} {xs : Nat → Int32} {d : Nat} {S : cm_S} {K : cm_K} (q1 : Int32) (q2 : Int32) (q3 : Int32) (q4 : Int32) (q5 : Int32) (q6 : Int32) (h : ((1 : Int32) = 0 ∨ (1 : Int32) = 1) ∧ K (.inl (some (.int (1 : Int32)))) S 0) : cm_At (am_XX L xs) (d + 1) 95 256 [some (.ref 37), some (.int q1), some (.int q2), some (.int q3), some (.int q4), some (.int q5), some (.int q6)] [] S K := cm_go1 (show am_TT 95 = some (am_B95, 7, []) from rfl) cb_95_ok (cw_95_256 (P := cm_At (am_XX L xs)) q1 q2 q3 q4 q5 q6 h)
theorem cw_97_0 {P : cm_P} {L : Nat} {xs : Nat → Int32} {d : Nat} {S : cm_S} {K : cm_K} (p0 : Int32) (h : P d 14 0 [some (.ref 44), some (.int p0)] [] S (fun r S1 k2 => cm_r1 (fun x4 => P d 8 0 [some (.ref 44), some (.int p0)] [] S1 (fun r S5 k6 => cm_r1 (fun x8 => (x8 = (4 : Int32) → (P d 8 0 [some (.ref 44), some (.int x4)] [] S5 (fun r S9 k10 => cm_r1 (fun x12 => (x12 = (6 : Int32) → (P d 14 0 [some (.ref 44), some (.int x4)] [] S9 (fun r S13 k14 => cm_r1 (fun x16 => P d 9 0 [some (.ref 44), some (.int p0)] [] S13 (fun r S17 k18 => cm_r1 (fun x20 => P d 25 0 [some (.ref 44), some (.int x20), some (.int x16), none, none, none] [] S17 (fun r S21 k22 => cm_r1 (fun x24 => (x24 = 0 → (P (d + 1) 97 71 [some (.ref 37), some (.int p0), some (.int x4), some (.int x16), some (.int (1 : Int32))] [] S21 (cm_sh (cm_sh (cm_sh (cm_sh (cm_sh (cm_sh K k2) k6) k10) k14) k18) k22))) ∧ (¬ x24 = 0 → (P (d + 1) 97 71 [some (.ref 37), some (.int p0), some (.int x4), some (.int x16), some (.int (0 : Int32))] [] S21 (cm_sh (cm_sh (cm_sh (cm_sh (cm_sh (cm_sh K k2) k6) k10) k14) k18) k22)))) (fun e23 => (cm_sh (cm_sh (cm_sh (cm_sh (cm_sh K k2) k6) k10) k14) k18) (.inr e23) S21 k22) r)) (fun e19 => (cm_sh (cm_sh (cm_sh (cm_sh K k2) k6) k10) k14) (.inr e19) S17 k18) r)) (fun e15 => (cm_sh (cm_sh (cm_sh K k2) k6) k10) (.inr e15) S13 k14) r))) ∧ (¬ x12 = (6 : Int32) → (P (d + 1) 97 34 [some (.ref 37), some (.int p0), some (.int x4), none, none] [] S9 (cm_sh (cm_sh (cm_sh K k2) k6) k10)))) (fun e11 => (cm_sh (cm_sh K k2) k6) (.inr e11) S9 k10) r))) ∧ (¬ x8 = (4 : Int32) → (P (d + 1) 97 34 [some (.ref 37), some (.int p0), some (.int x4), none, none] [] S5 (cm_sh (cm_sh K k2) k6)))) (fun e7 => (cm_sh K k2) (.inr e7) S5 k6) r)) (fun e3 => K (.inr e3) S1 k2) r)) : cm_st P (am_XX L xs) d cb_97 [] (cm_go P (am_XX L xs) d 97 cb_97 [] [34, 71, 96] 400) 0 [some (.ref 37), some (.int p0), none, none, none] [] S K := h
theorem cz_97_0 {L : Nat} {xs : Nat → Int32} {d : Nat} {S : cm_S} {K : cm_K} (p0 : Int32) (h : cm_At (am_XX L xs) d 14 0 [some (.ref 44), some (.int p0)] [] S (fun r S1 k2 => cm_r1 (fun x4 => cm_At (am_XX L xs) d 8 0 [some (.ref 44), some (.int p0)] [] S1 (fun r S5 k6 => cm_r1 (fun x8 => (x8 = (4 : Int32) → (cm_At (am_XX L xs) d 8 0 [some (.ref 44), some (.int x4)] [] S5 (fun r S9 k10 => cm_r1 (fun x12 => (x12 = (6 : Int32) → (cm_At (am_XX L xs) d 14 0 [some (.ref 44), some (.int x4)] [] S9 (fun r S13 k14 => cm_r1 (fun x16 => cm_At (am_XX L xs) d 9 0 [some (.ref 44), some (.int p0)] [] S13 (fun r S17 k18 => cm_r1 (fun x20 => cm_At (am_XX L xs) d 25 0 [some (.ref 44), some (.int x20), some (.int x16), none, none, none] [] S17 (fun r S21 k22 => cm_r1 (fun x24 => (x24 = 0 → (cm_At (am_XX L xs) (d + 1) 97 71 [some (.ref 37), some (.int p0), some (.int x4), some (.int x16), some (.int (1 : Int32))] [] S21 (cm_sh (cm_sh (cm_sh (cm_sh (cm_sh (cm_sh K k2) k6) k10) k14) k18) k22))) ∧ (¬ x24 = 0 → (cm_At (am_XX L xs) (d + 1) 97 71 [some (.ref 37), some (.int p0), some (.int x4), some (.int x16), some (.int (0 : Int32))] [] S21 (cm_sh (cm_sh (cm_sh (cm_sh (cm_sh (cm_sh K k2) k6) k10) k14) k18) k22)))) (fun e23 => (cm_sh (cm_sh (cm_sh (cm_sh (cm_sh K k2) k6) k10) k14) k18) (.inr e23) S21 k22) r)) (fun e19 => (cm_sh (cm_sh (cm_sh (cm_sh K k2) k6) k10) k14) (.inr e19) S17 k18) r)) (fun e15 => (cm_sh (cm_sh (cm_sh K k2) k6) k10) (.inr e15) S13 k14) r))) ∧ (¬ x12 = (6 : Int32) → (cm_At (am_XX L xs) (d + 1) 97 34 [some (.ref 37), some (.int p0), some (.int x4), none, none] [] S9 (cm_sh (cm_sh (cm_sh K k2) k6) k10)))) (fun e11 => (cm_sh (cm_sh K k2) k6) (.inr e11) S9 k10) r))) ∧ (¬ x8 = (4 : Int32) → (cm_At (am_XX L xs) (d + 1) 97 34 [some (.ref 37), some (.int p0), some (.int x4), none, none] [] S5 (cm_sh (cm_sh K k2) k6)))) (fun e7 => (cm_sh K k2) (.inr e7) S5 k6) r)) (fun e3 => K (.inr e3) S1 k2) r)) : cm_At (am_XX L xs) (d + 1) 97 0 [some (.ref 37), some (.int p0), none, none, none] [] S K := cm_go1 (show am_TT 97 = some (am_B97, 5, []) from rfl) cb_97_ok (cw_97_0 (P := cm_At (am_XX L xs)) p0 h)
theorem cw_97_34 {P : cm_P} {L : Nat} {xs : Nat → Int32} {d : Nat} {S : cm_S} {K : cm_K} (q1 : Int32) (q2 : Int32) (h : ((0 : Int32) = 0 ∨ (0 : Int32) = 1) ∧ K (.inl (some (.int (0 : Int32)))) S 0) : cm_st P (am_XX L xs) d cb_97 [] (cm_go P (am_XX L xs) d 97 cb_97 [] [34, 71, 96] 400) 34 [some (.ref 37), some (.int q1), some (.int q2), none, none] [] S K := h
theorem cz_97_34 {L : Nat} {xs : Nat → Int32} {d : Nat} {S : cm_S} {K : cm_K} (q1 : Int32) (q2 : Int32) (h : ((0 : Int32) = 0 ∨ (0 : Int32) = 1) ∧ K (.inl (some (.int (0 : Int32)))) S 0) : cm_At (am_XX L xs) (d + 1) 97 34 [some (.ref 37), some (.int q1), some (.int q2), none, none] [] S K := cm_go1 (show am_TT 97 = some (am_B97, 5, []) from rfl) cb_97_ok (cw_97_34 (P := cm_At (am_XX L xs)) q1 q2 h)
theorem cw_97_71 {P : cm_P} {L : Nat} {xs : Nat → Int32} {d : Nat} {S : cm_S} {K : cm_K} (q1 : Int32) (q2 : Int32) (q3 : Int32) (q4 : Int32) (h : (q4 = 0 → (P (d + 1) 97 96 [some (.ref 37), some (.int q1), some (.int q2), some (.int q3), some (.int q4)] [] S K)) ∧ (¬ q4 = 0 → (P d 91 0 [some (.ref 37), some (.int q3), none] [] S (fun r S1 k2 => cm_r1 (fun x4 => (x4 = 0 → (P d 8 0 [some (.ref 44), some (.int q3)] [] S1 (fun r S5 k6 => cm_r1 (fun x8 => (x8 = (4 : Int32) → (P (d + 1) 97 96 [some (.ref 37), some (.int q1), some (.int q2), some (.int q3), some (.int q4)] [] S5 (cm_sh (cm_sh K k2) k6))) ∧ (¬ x8 = (4 : Int32) → (P d 51 0 [some (.ref 50), some (.ref 44), some (.int q2)] [] S5 (fun r S9 k10 => cm_r0 (P d 52 0 [some (.ref 50), some (.ref 44), some (.int q3), none, none] [] S9 (fun r S12 k13 => cm_r0 (P d 51 0 [some (.ref 50), some (.ref 44), some (.int q1)] [] S12 (fun r S15 k16 => cm_r0 (P d 15 0 [some (.ref 44), some (.int q2)] [] S15 (fun r S18 k19 => cm_r1 (fun x21 => P d 52 0 [some (.ref 50), some (.ref 44), some (.int x21), none, none] [] S18 (fun r S22 k23 => cm_r0 (((1 : Int32) = 0 ∨ (1 : Int32) = 1) ∧ (cm_sh (cm_sh (cm_sh (cm_sh (cm_sh (cm_sh (cm_sh K k2) k6) k10) k13) k16) k19) k23) (.inl (some (.int (1 : Int32)))) S22 0) (fun e24 => (cm_sh (cm_sh (cm_sh (cm_sh (cm_sh (cm_sh K k2) k6) k10) k13) k16) k19) (.inr e24) S22 k23) r)) (fun e20 => (cm_sh (cm_sh (cm_sh (cm_sh (cm_sh K k2) k6) k10) k13) k16) (.inr e20) S18 k19) r)) (fun e17 => (cm_sh (cm_sh (cm_sh (cm_sh K k2) k6) k10) k13) (.inr e17) S15 k16) r)) (fun e14 => (cm_sh (cm_sh (cm_sh K k2) k6) k10) (.inr e14) S12 k13) r)) (fun e11 => (cm_sh (cm_sh K k2) k6) (.inr e11) S9 k10) r)))) (fun e7 => (cm_sh K k2) (.inr e7) S5 k6) r))) ∧ (¬ x4 = 0 → (P (d + 1) 97 96 [some (.ref 37), some (.int q1), some (.int q2), some (.int q3), some (.int q4)] [] S1 (cm_sh K k2)))) (fun e3 => K (.inr e3) S1 k2) r)))) : cm_st P (am_XX L xs) d cb_97 [] (cm_go P (am_XX L xs) d 97 cb_97 [] [34, 71, 96] 400) 71 [some (.ref 37), some (.int q1), some (.int q2), some (.int q3), some (.int q4)] [] S K := h
theorem cz_97_71 {L : Nat} {xs : Nat → Int32} {d : Nat} {S : cm_S} {K : cm_K} (q1 : Int32) (q2 : Int32) (q3 : Int32) (q4 : Int32) (h : (q4 = 0 → (cm_At (am_XX L xs) (d + 1) 97 96 [some (.ref 37), some (.int q1), some (.int q2), some (.int q3), some (.int q4)] [] S K)) ∧ (¬ q4 = 0 → (cm_At (am_XX L xs) d 91 0 [some (.ref 37), some (.int q3), none] [] S (fun r S1 k2 => cm_r1 (fun x4 => (x4 = 0 → (cm_At (am_XX L xs) d 8 0 [some (.ref 44), some (.int q3)] [] S1 (fun r S5 k6 => cm_r1 (fun x8 => (x8 = (4 : Int32) → (cm_At (am_XX L xs) (d + 1) 97 96 [some (.ref 37), some (.int q1), some (.int q2), some (.int q3), some (.int q4)] [] S5 (cm_sh (cm_sh K k2) k6))) ∧ (¬ x8 = (4 : Int32) → (cm_At (am_XX L xs) d 51 0 [some (.ref 50), some (.ref 44), some (.int q2)] [] S5 (fun r S9 k10 => cm_r0 (cm_At (am_XX L xs) d 52 0 [some (.ref 50), some (.ref 44), some (.int q3), none, none] [] S9 (fun r S12 k13 => cm_r0 (cm_At (am_XX L xs) d 51 0 [some (.ref 50), some (.ref 44), some (.int q1)] [] S12 (fun r S15 k16 => cm_r0 (cm_At (am_XX L xs) d 15 0 [some (.ref 44), some (.int q2)] [] S15 (fun r S18 k19 => cm_r1 (fun x21 => cm_At (am_XX L xs) d 52 0 [some (.ref 50), some (.ref 44), some (.int x21), none, none] [] S18 (fun r S22 k23 => cm_r0 (((1 : Int32) = 0 ∨ (1 : Int32) = 1) ∧ (cm_sh (cm_sh (cm_sh (cm_sh (cm_sh (cm_sh (cm_sh K k2) k6) k10) k13) k16) k19) k23) (.inl (some (.int (1 : Int32)))) S22 0) (fun e24 => (cm_sh (cm_sh (cm_sh (cm_sh (cm_sh (cm_sh K k2) k6) k10) k13) k16) k19) (.inr e24) S22 k23) r)) (fun e20 => (cm_sh (cm_sh (cm_sh (cm_sh (cm_sh K k2) k6) k10) k13) k16) (.inr e20) S18 k19) r)) (fun e17 => (cm_sh (cm_sh (cm_sh (cm_sh K k2) k6) k10) k13) (.inr e17) S15 k16) r)) (fun e14 => (cm_sh (cm_sh (cm_sh K k2) k6) k10) (.inr e14) S12 k13) r)) (fun e11 => (cm_sh (cm_sh K k2) k6) (.inr e11) S9 k10) r)))) (fun e7 => (cm_sh K k2) (.inr e7) S5 k6) r))) ∧ (¬ x4 = 0 → (cm_At (am_XX L xs) (d + 1) 97 96 [some (.ref 37), some (.int q1), some (.int q2), some (.int q3), some (.int q4)] [] S1 (cm_sh K k2)))) (fun e3 => K (.inr e3) S1 k2) r)))) : cm_At (am_XX L xs) (d + 1) 97 71 [some (.ref 37), some (.int q1), some (.int q2), some (.int q3), some (.int q4)] [] S K := cm_go1 (show am_TT 97 = some (am_B97, 5, []) from rfl) cb_97_ok (cw_97_71 (P := cm_At (am_XX L xs)) q1 q2 q3 q4 h)
theorem cw_97_96 {P : cm_P} {L : Nat} {xs : Nat → Int32} {d : Nat} {S : cm_S} {K : cm_K} (q1 : Int32) (q2 : Int32) (q3 : Int32) (q4 : Int32) (h : ((0 : Int32) = 0 ∨ (0 : Int32) = 1) ∧ K (.inl (some (.int (0 : Int32)))) S 0) : cm_st P (am_XX L xs) d cb_97 [] (cm_go P (am_XX L xs) d 97 cb_97 [] [34, 71, 96] 400) 96 [some (.ref 37), some (.int q1), some (.int q2), some (.int q3), some (.int q4)] [] S K := h
theorem cz_97_96 {L : Nat} {xs : Nat → Int32} {d : Nat} {S : cm_S} {K : cm_K} (q1 : Int32) (q2 : Int32) (q3 : Int32) (q4 : Int32) (h : ((0 : Int32) = 0 ∨ (0 : Int32) = 1) ∧ K (.inl (some (.int (0 : Int32)))) S 0) : cm_At (am_XX L xs) (d + 1) 97 96 [some (.ref 37), some (.int q1), some (.int q2), some (.int q3), some (.int q4)] [] S K := cm_go1 (show am_TT 97 = some (am_B97, 5, []) from rfl) cb_97_ok (cw_97_96 (P := cm_At (am_XX L xs)) q1 q2 q3 q4 h)
theorem cw_98_0 {P : cm_P} {L : Nat} {xs : Nat → Int32} {d : Nat} {S : cm_S} {K : cm_K} (p0 : Int32) (h : P d 15 0 [some (.ref 44), some (.int p0)] [] S (fun r S1 k2 => cm_r1 (fun x4 => P d 8 0 [some (.ref 44), some (.int p0)] [] S1 (fun r S5 k6 => cm_r1 (fun x8 => (x8 = (6 : Int32) → (P d 8 0 [some (.ref 44), some (.int x4)] [] S5 (fun r S9 k10 => cm_r1 (fun x12 => (x12 = (4 : Int32) → (P d 14 0 [some (.ref 44), some (.int p0)] [] S9 (fun r S13 k14 => cm_r1 (fun x16 => P d 8 0 [some (.ref 44), some (.int x16)] [] S13 (fun r S17 k18 => cm_r1 (fun x20 => (x20 = (1 : Int32) → (P (d + 1) 98 69 [some (.ref 37), some (.int p0), some (.int x4), some (.int x20)] [] S17 (cm_sh (cm_sh (cm_sh (cm_sh (cm_sh K k2) k6) k10) k14) k18))) ∧ (¬ x20 = (1 : Int32) → ((x20 = (2 : Int32) → (P (d + 1) 98 69 [some (.ref 37), some (.int p0), some (.int x4), some (.int x20)] [] S17 (cm_sh (cm_sh (cm_sh (cm_sh (cm_sh K k2) k6) k10) k14) k18))) ∧ (¬ x20 = (2 : Int32) → ((x20 = (4 : Int32) → (P (d + 1) 98 69 [some (.ref 37), some (.int p0), some (.int x4), some (.int x20)] [] S17 (cm_sh (cm_sh (cm_sh (cm_sh (cm_sh K k2) k6) k10) k14) k18))) ∧ (¬ x20 = (4 : Int32) → (((0 : Int32) = 0 ∨ (0 : Int32) = 1) ∧ (cm_sh (cm_sh (cm_sh (cm_sh (cm_sh K k2) k6) k10) k14) k18) (.inl (some (.int (0 : Int32)))) S17 0))))))) (fun e19 => (cm_sh (cm_sh (cm_sh (cm_sh K k2) k6) k10) k14) (.inr e19) S17 k18) r)) (fun e15 => (cm_sh (cm_sh (cm_sh K k2) k6) k10) (.inr e15) S13 k14) r))) ∧ (¬ x12 = (4 : Int32) → (P (d + 1) 98 34 [some (.ref 37), some (.int p0), some (.int x4), none] [] S9 (cm_sh (cm_sh (cm_sh K k2) k6) k10)))) (fun e11 => (cm_sh (cm_sh K k2) k6) (.inr e11) S9 k10) r))) ∧ (¬ x8 = (6 : Int32) → (P (d + 1) 98 34 [some (.ref 37), some (.int p0), some (.int x4), none] [] S5 (cm_sh (cm_sh K k2) k6)))) (fun e7 => (cm_sh K k2) (.inr e7) S5 k6) r)) (fun e3 => K (.inr e3) S1 k2) r)) : cm_st P (am_XX L xs) d cb_98 [] (cm_go P (am_XX L xs) d 98 cb_98 [] [34, 69] 400) 0 [some (.ref 37), some (.int p0), none, none] [] S K := h
theorem cz_98_0 {L : Nat} {xs : Nat → Int32} {d : Nat} {S : cm_S} {K : cm_K} (p0 : Int32) (h : cm_At (am_XX L xs) d 15 0 [some (.ref 44), some (.int p0)] [] S (fun r S1 k2 => cm_r1 (fun x4 => cm_At (am_XX L xs) d 8 0 [some (.ref 44), some (.int p0)] [] S1 (fun r S5 k6 => cm_r1 (fun x8 => (x8 = (6 : Int32) → (cm_At (am_XX L xs) d 8 0 [some (.ref 44), some (.int x4)] [] S5 (fun r S9 k10 => cm_r1 (fun x12 => (x12 = (4 : Int32) → (cm_At (am_XX L xs) d 14 0 [some (.ref 44), some (.int p0)] [] S9 (fun r S13 k14 => cm_r1 (fun x16 => cm_At (am_XX L xs) d 8 0 [some (.ref 44), some (.int x16)] [] S13 (fun r S17 k18 => cm_r1 (fun x20 => (x20 = (1 : Int32) → (cm_At (am_XX L xs) (d + 1) 98 69 [some (.ref 37), some (.int p0), some (.int x4), some (.int x20)] [] S17 (cm_sh (cm_sh (cm_sh (cm_sh (cm_sh K k2) k6) k10) k14) k18))) ∧ (¬ x20 = (1 : Int32) → ((x20 = (2 : Int32) → (cm_At (am_XX L xs) (d + 1) 98 69 [some (.ref 37), some (.int p0), some (.int x4), some (.int x20)] [] S17 (cm_sh (cm_sh (cm_sh (cm_sh (cm_sh K k2) k6) k10) k14) k18))) ∧ (¬ x20 = (2 : Int32) → ((x20 = (4 : Int32) → (cm_At (am_XX L xs) (d + 1) 98 69 [some (.ref 37), some (.int p0), some (.int x4), some (.int x20)] [] S17 (cm_sh (cm_sh (cm_sh (cm_sh (cm_sh K k2) k6) k10) k14) k18))) ∧ (¬ x20 = (4 : Int32) → (((0 : Int32) = 0 ∨ (0 : Int32) = 1) ∧ (cm_sh (cm_sh (cm_sh (cm_sh (cm_sh K k2) k6) k10) k14) k18) (.inl (some (.int (0 : Int32)))) S17 0))))))) (fun e19 => (cm_sh (cm_sh (cm_sh (cm_sh K k2) k6) k10) k14) (.inr e19) S17 k18) r)) (fun e15 => (cm_sh (cm_sh (cm_sh K k2) k6) k10) (.inr e15) S13 k14) r))) ∧ (¬ x12 = (4 : Int32) → (cm_At (am_XX L xs) (d + 1) 98 34 [some (.ref 37), some (.int p0), some (.int x4), none] [] S9 (cm_sh (cm_sh (cm_sh K k2) k6) k10)))) (fun e11 => (cm_sh (cm_sh K k2) k6) (.inr e11) S9 k10) r))) ∧ (¬ x8 = (6 : Int32) → (cm_At (am_XX L xs) (d + 1) 98 34 [some (.ref 37), some (.int p0), some (.int x4), none] [] S5 (cm_sh (cm_sh K k2) k6)))) (fun e7 => (cm_sh K k2) (.inr e7) S5 k6) r)) (fun e3 => K (.inr e3) S1 k2) r)) : cm_At (am_XX L xs) (d + 1) 98 0 [some (.ref 37), some (.int p0), none, none] [] S K := cm_go1 (show am_TT 98 = some (am_B98, 4, []) from rfl) cb_98_ok (cw_98_0 (P := cm_At (am_XX L xs)) p0 h)
theorem cw_98_34 {P : cm_P} {L : Nat} {xs : Nat → Int32} {d : Nat} {S : cm_S} {K : cm_K} (q1 : Int32) (q2 : Int32) (h : ((0 : Int32) = 0 ∨ (0 : Int32) = 1) ∧ K (.inl (some (.int (0 : Int32)))) S 0) : cm_st P (am_XX L xs) d cb_98 [] (cm_go P (am_XX L xs) d 98 cb_98 [] [34, 69] 400) 34 [some (.ref 37), some (.int q1), some (.int q2), none] [] S K := h
theorem cz_98_34 {L : Nat} {xs : Nat → Int32} {d : Nat} {S : cm_S} {K : cm_K} (q1 : Int32) (q2 : Int32) (h : ((0 : Int32) = 0 ∨ (0 : Int32) = 1) ∧ K (.inl (some (.int (0 : Int32)))) S 0) : cm_At (am_XX L xs) (d + 1) 98 34 [some (.ref 37), some (.int q1), some (.int q2), none] [] S K := cm_go1 (show am_TT 98 = some (am_B98, 4, []) from rfl) cb_98_ok (cw_98_34 (P := cm_At (am_XX L xs)) q1 q2 h)
theorem cw_98_69 {P : cm_P} {L : Nat} {xs : Nat → Int32} {d : Nat} {S : cm_S} {K : cm_K} (q1 : Int32) (q2 : Int32) (q3 : Int32) (h : P d 51 0 [some (.ref 50), some (.ref 44), some (.int q2)] [] S (fun r S1 k2 => cm_r0 (P d 14 0 [some (.ref 44), some (.int q2)] [] S1 (fun r S4 k5 => cm_r1 (fun x7 => P d 96 0 [some (.ref 37), some (.int q1), some (.int x7)] [] S4 (fun r S8 k9 => cm_r0 (((1 : Int32) = 0 ∨ (1 : Int32) = 1) ∧ (cm_sh (cm_sh (cm_sh K k2) k5) k9) (.inl (some (.int (1 : Int32)))) S8 0) (fun e10 => (cm_sh (cm_sh K k2) k5) (.inr e10) S8 k9) r)) (fun e6 => (cm_sh K k2) (.inr e6) S4 k5) r)) (fun e3 => K (.inr e3) S1 k2) r)) : cm_st P (am_XX L xs) d cb_98 [] (cm_go P (am_XX L xs) d 98 cb_98 [] [34, 69] 400) 69 [some (.ref 37), some (.int q1), some (.int q2), some (.int q3)] [] S K := h
theorem cz_98_69 {L : Nat} {xs : Nat → Int32} {d : Nat} {S : cm_S} {K : cm_K} (q1 : Int32) (q2 : Int32) (q3 : Int32) (h : cm_At (am_XX L xs) d 51 0 [some (.ref 50), some (.ref 44), some (.int q2)] [] S (fun r S1 k2 => cm_r0 (cm_At (am_XX L xs) d 14 0 [some (.ref 44), some (.int q2)] [] S1 (fun r S4 k5 => cm_r1 (fun x7 => cm_At (am_XX L xs) d 96 0 [some (.ref 37), some (.int q1), some (.int x7)] [] S4 (fun r S8 k9 => cm_r0 (((1 : Int32) = 0 ∨ (1 : Int32) = 1) ∧ (cm_sh (cm_sh (cm_sh K k2) k5) k9) (.inl (some (.int (1 : Int32)))) S8 0) (fun e10 => (cm_sh (cm_sh K k2) k5) (.inr e10) S8 k9) r)) (fun e6 => (cm_sh K k2) (.inr e6) S4 k5) r)) (fun e3 => K (.inr e3) S1 k2) r)) : cm_At (am_XX L xs) (d + 1) 98 69 [some (.ref 37), some (.int q1), some (.int q2), some (.int q3)] [] S K := cm_go1 (show am_TT 98 = some (am_B98, 4, []) from rfl) cb_98_ok (cw_98_69 (P := cm_At (am_XX L xs)) q1 q2 q3 h)
theorem dk_sh0 {K : cm_K} : cm_sh K 0 = K := by
  funext r S k
  unfold cm_sh
  rw [Nat.zero_add]
section CPa05
variable {L : Nat} {xs : Nat → Int32} {d : Nat} {S : cm_S} {K : cm_K} {n p : Nat} {e : ct_D} {a b c : ct_T}
/-- a LET round another body -/
theorem cp_96 {l : List ct_D} {q : Nat} {t : ct_T} (hd : dk_d S l n) (ht : ck_t S 44 p (ct_nd e a b c)) (hw : dt_w (ct_nd e a b c)) (la : ¬ a = .leaf) (hq : ck_t S 44 q t) (hwt : ct_wf t) (lt : ¬ t = .leaf) (hl : l.length + 1 + ct_sz a + ct_sz t < 100000)
    (k : ∀ S2, dk_d S2 (l ++ [e] ++ ct_fl a ++ ct_fl t) n → cf_W cW_dr S S2 → K (.inl none) S2 0) :
    cm_At (am_XX L xs) (d + 4) 96 0 [some (.ref 37), some (.int (Int32.ofNat p)), some (.int (Int32.ofNat q))] [] S K := by
  obtain ⟨p1, p2, pa, pb, pc⟩ := dt_w_nd hw
  have ht2 := ht
  rw [ck_t_nd] at ht2
  obtain ⟨t0, t1, t2, t3, t4, t5⟩ := ht2
  refine cx_96_0 _ _ ?_
  refine cp_51 (by decide) hd (by omega) (fun S1 d1 c1 => cp_r0 ?_)
  rw [dk_gr (c := 44) (by decide) ht hw.1 dt_ndl, show dt_e (ct_nd e a b c) = e from rfl] at d1
  refine cp_14 (by decide) (cp_r1 ?_)
  rw [dk_1]
  refine cp_52 (Or.inl rfl) d1 pa.1 la (dk_fr (Or.inl rfl) c1 t3) (by simp only [List.length_append, List.length_cons, List.length_nil]; omega) (fun S2 d2 c2 => cp_r0 ?_)
  have c12 := cf_tr c1 c2
  refine cp_52 (Or.inl rfl) d2 hwt lt (dk_fr (Or.inl rfl) c12 hq) (by simp only [List.length_append, List.length_cons, List.length_nil, ct_fl_len]; omega) (fun S3 d3 c3 => cp_r0 ?_)
  exact k S3 d3 (cf_tr c12 c3)
theorem dk_pos {m : Nat} (hm : m < 100000) : (0 : Int32) < Int32.ofNat m ↔ 0 < m := by
  rw [show (0 : Int32) = Int32.ofNat 0 from rfl, cp_lt (by omega) (by omega)]
/-- a LET into a part of a choice -/
theorem cp_95 (hd : dk_d S [] n) (ht : ck_t S 44 p (ct_nd e a b c)) (hw : dt_w (ct_nd e a b c)) (hsz : ct_sz (ct_nd e a b c) < 50000) (k : dk_st (dt_fi n e a b) S K) :
    cm_At (am_XX L xs) (d + 5) 95 0 [some (.ref 37), some (.int (Int32.ofNat p)), none, none, none, none, none] [] S K := by
  obtain ⟨p1, p2, pa, pb, pc⟩ := dt_w_nd hw
  have hszn := ct_sz_nd (e := e) (a := a) (b := b) (c := c)
  unfold dt_fi at k
  have g58 : ∀ (q2 q3 : Int32) (K2 : cm_K), K2 (.inl (some (.int 0))) S 0 → cm_At (am_XX L xs) (d + 5) 95 58 [some (.ref 37), some (.int (Int32.ofNat p)), some (.int q2), some (.int q3), none, none, none] [] S K2 := fun q2 q3 K2 h => cz_95_58 _ _ _ ⟨Or.inl rfl, h⟩
  have gk := dk_k ht hw.1 dt_ndl
  rw [show dt_k (ct_nd e a b c) = e.1 from rfl] at gk
  by_cases h6 : e.1 = 6
  case neg =>
    rw [if_neg (fun hc => h6 hc.1)] at k
    have g41 : ∀ (q2 q3 : Int32) (K2 : cm_K), K2 (.inl (some (.int 0))) S 0 → cm_At (am_XX L xs) (d + 5) 95 41 [some (.ref 37), some (.int (Int32.ofNat p)), some (.int q2), some (.int q3), none, none, none] [] S K2 := fun q2 q3 K2 h => by
      refine cz_95_41 _ _ _ ?_
      refine cp_8 (by decide) (cp_r1 ?_)
      rw [gk]
      exact ⟨fun hc => absurd hc h6, fun _ => g58 _ _ _ h⟩
    refine cz_95_0 _ ?_
    refine cp_15 (by decide) (cp_r1 ?_)
    refine cp_8 (by decide) (cp_r1 ?_)
    refine ⟨fun _ => cz_95_35 _ _ (g41 _ _ _ k), fun _ => ?_⟩
    refine cp_8 (by decide) (cp_r1 ?_)
    exact ⟨fun _ => cz_95_35 _ _ (g41 _ _ _ k), fun _ => g41 _ _ _ k⟩
  obtain ⟨la, lb, lc⟩ := ct_q2 hw.1 (Or.inr (Or.inl h6))
  have ht2 := ht
  rw [ck_t_nd] at ht2
  obtain ⟨t0, t1, t2, t3, t4, t5⟩ := ht2
  have gn : ¬ (dt_k b = 12 ∨ dt_k b = 13) → ∀ K2 : cm_K, K2 (.inl (some (.int 0))) S 0 → cm_At (am_XX L xs) (d + 5) 95 41 [some (.ref 37), some (.int (Int32.ofNat p)), some (.int (Int32.ofNat (p + 1 + ct_sz a))), some (.int 0), none, none, none] [] S K2 := fun hc K2 h => by
    refine cz_95_41 _ _ _ ?_
    refine cp_8 (by decide) (cp_r1 ?_)
    rw [gk]
    exact ⟨fun _ => ⟨fun _ => g58 _ _ _ h, fun h => absurd rfl h⟩, fun _ => g58 _ _ _ h⟩
  have gy : (dt_k b = 12 ∨ dt_k b = 13) → ∀ K2 : cm_K, dk_st (dt_fi n e a b) S K2 → cm_At (am_XX L xs) (d + 5) 95 35 [some (.ref 37), some (.int (Int32.ofNat p)), some (.int (Int32.ofNat (p + 1 + ct_sz a))), none, none, none, none] [] S K2 := by
    intro hc K2 k
    unfold dt_fi at k
    obtain ⟨f, x, y, z, rfl⟩ := ct_cs pb.1 lb
    have hc' : f.1 = 12 ∨ f.1 = 13 := hc
    obtain ⟨lx, ly, lz⟩ := ct_q3 pb.1 hc'
    obtain ⟨q1, q2, px, py, pz⟩ := dt_w_nd pb
    have hszb := ct_sz_nd (e := f) (a := x) (b := y) (c := z)
    have t4' := t4
    rw [ck_t_nd] at t4'
    obtain ⟨u0, u1, u2, u3, u4, u5⟩ := t4'
    have lex := Nat.le_trans (ct_cn_le (x := e.2.2.1) (ct_fl x)) (by rw [ct_fl_len]; exact Nat.le_refl _)
    have ley := Nat.le_trans (ct_cn_le (x := e.2.2.1) (ct_fl y)) (by rw [ct_fl_len]; exact Nat.le_refl _)
    have lez := Nat.le_trans (ct_cn_le (x := e.2.2.1) (ct_fl z)) (by rw [ct_fl_len]; exact Nat.le_refl _)
    change dk_st (if e.1 = 6 ∧ (dt_k (ct_nd f x y z) = 12 ∨ dt_k (ct_nd f x y z) = 13) ∧ ct_cn e.2.2.1 (ct_fl x) = 0 then
      (if 0 < ct_cn e.2.2.1 (ct_fl y) then
        (if 0 < ct_cn e.2.2.1 (ct_fl z) then none else some (ct_nd f x (ct_nd e a y .leaf) z, n))
      else (if 0 < ct_cn e.2.2.1 (ct_fl z) then some (ct_nd f x y (ct_nd e a z .leaf), n) else none))
      else none) S K2 at k
    refine cz_95_35 _ _ (cz_95_41 _ _ _ ?_)
    refine cp_8 (by decide) (cp_r1 ?_)
    rw [gk]
    refine ⟨fun _ => ⟨fun h => absurd h (by decide), fun _ => ?_⟩, fun h => absurd h6 h⟩
    refine cp_9 (by decide) (cp_r1 ?_)
    rw [dk_v ht hw.1 dt_ndl, show (dt_e (ct_nd e a (ct_nd f x y z) c)).2.2.1 = e.2.2.1 from rfl]
    refine cp_15 (by decide) (cp_r1 ?_)
    rw [cp_2nd (a := 44) (by decide) t4 pb.1 lx]
    refine cp_25 (by decide) py.1 ly u4 (cp_r1 ?_)
    rw [dk_pos (by omega)]
    have g124 : ∀ (q5 q6 : Int32) (K3 : cm_K), (q5 = if 0 < ct_cn e.2.2.1 (ct_fl y) then 1 else 0) → (q6 = if 0 < ct_cn e.2.2.1 (ct_fl z) then 1 else 0) → (K3 = K2) → cm_At (am_XX L xs) (d + 5) 95 124 [some (.ref 37), some (.int (Int32.ofNat p)), some (.int (Int32.ofNat (p + 1 + ct_sz a))), some (.int 1), some (.int e.2.2.1), some (.int q5), some (.int q6)] [] S K3 := by
      intro q5 q6 K3 h5 h6' hK
      rw [hK]
      clear hK K3
      refine cz_95_124 _ _ _ _ _ _ ?_
      refine cp_14 (by decide) (cp_r1 ?_)
      rw [dk_1]
      refine cp_25 (by decide) px.1 lx u3 (cp_r1 ?_)
      rw [dk_pos (by omega)]
      refine ⟨fun hx => ?_, fun hx => ⟨fun hqq => ?_, fun hqq => ?_⟩⟩
      · rw [if_neg (fun hcc => by have := hcc.2.2; omega)] at k
        exact cz_95_151 _ _ _ _ _ _ ⟨Or.inl rfl, k⟩
      · have hk0 : K2 (.inl (some (.int 0))) S 0 := by
          by_cases hy : 0 < ct_cn e.2.2.1 (ct_fl y) <;> by_cases hz : 0 < ct_cn e.2.2.1 (ct_fl z)
          · rw [if_pos hy, if_pos hz] at k
            split at k <;> exact k
          · rw [h5, h6', if_pos hy, if_neg hz] at hqq
            exact absurd hqq (by decide)
          · rw [h5, h6', if_neg hy, if_pos hz] at hqq
            exact absurd hqq (by decide)
          · rw [if_neg hy, if_neg hz] at k
            split at k <;> exact k
        exact cz_95_151 _ _ _ _ _ _ ⟨Or.inl rfl, hk0⟩
      · rw [if_pos ⟨h6, hc', by omega⟩] at k
        refine cp_51 (by decide) hd (by rw [List.length_nil]; omega) (fun S1 d1 c1 => cp_r0 ?_)
        rw [dk_gr (c := 44) (by decide) t4 pb.1 lb, show dt_e (ct_nd f x y z) = f from rfl] at d1
        refine cp_14 (by decide) (cp_r1 ?_)
        rw [dk_1]
        refine cp_52 (Or.inl rfl) d1 px.1 lx (dk_fr (Or.inl rfl) c1 u3) (by simp only [List.length_append, List.length_cons, List.length_nil]; omega) (fun S2 d2 c2 => cp_r0 ?_)
        have c12 := cf_tr c1 c2
        refine ⟨fun h50 => ?_, fun h50 => ?_⟩
        · have hy : ¬ 0 < ct_cn e.2.2.1 (ct_fl y) := fun hy => by rw [h5, if_pos hy] at h50; exact absurd h50 (by decide)
          have hz : 0 < ct_cn e.2.2.1 (ct_fl z) := by
            by_cases hz : 0 < ct_cn e.2.2.1 (ct_fl z)
            · exact hz
            · rw [h5, h6', if_neg hy, if_neg hz] at hqq
              exact absurd rfl hqq
          rw [if_neg hy, if_pos hz] at k
          refine cp_15 (by decide) (cp_r1 ?_)
          rw [cp_2nd (a := 44) (by decide) (dk_fr (Or.inl rfl) c12 t4) pb.1 lx]
          refine cp_52 (Or.inl rfl) d2 py.1 ly (dk_fr (Or.inl rfl) c12 u4) (by simp only [List.length_append, List.length_cons, List.length_nil, ct_fl_len]; omega) (fun S3 d3 c3 => cp_r0 ?_)
          have c13 := cf_tr c12 c3
          refine cp_16 (by decide) (cp_r1 ?_)
          rw [cp_3rd (a := 44) (by decide) (dk_fr (Or.inl rfl) c13 t4) pb.1 lx ly]
          refine cp_96 d3 (dk_fr (Or.inl rfl) c13 ht) hw la (dk_fr (Or.inl rfl) c13 u5) pz.1 lz (by simp only [List.length_append, List.length_cons, List.length_nil, ct_fl_len]; omega) (fun S4 d4 c4 => cp_r0 ?_)
          refine cz_95_256 _ _ _ _ _ _ ⟨Or.inr rfl, ?_⟩
          refine k S4 ?_ (cf_tr c13 c4)
          have e1 : ct_fl (ct_nd f x y (ct_nd e a z .leaf)) = [] ++ [f] ++ ct_fl x ++ ct_fl y ++ [e] ++ ct_fl a ++ ct_fl z := by
            rw [ct_fl_nd, ct_fl_nd]
            show f :: (ct_fl x ++ (ct_fl y ++ (e :: (ct_fl a ++ (ct_fl z ++ []))))) = _
            simp
          show dk_d S4 (ct_fl (ct_nd f x y (ct_nd e a z .leaf))) n
          rw [e1]
          exact d4
        · have hy : 0 < ct_cn e.2.2.1 (ct_fl y) := by
            by_cases hy : 0 < ct_cn e.2.2.1 (ct_fl y)
            · exact hy
            · rw [h5, if_neg hy] at h50
              exact absurd rfl h50
          have hz : ¬ 0 < ct_cn e.2.2.1 (ct_fl z) := fun hz => by
            rw [h5, h6', if_pos hy, if_pos hz] at hqq
            exact absurd rfl hqq
          rw [if_pos hy, if_neg hz] at k
          refine cp_15 (by decide) (cp_r1 ?_)
          rw [cp_2nd (a := 44) (by decide) (dk_fr (Or.inl rfl) c12 t4) pb.1 lx]
          refine cp_96 d2 (dk_fr (Or.inl rfl) c12 ht) hw la (dk_fr (Or.inl rfl) c12 u4) py.1 ly (by simp only [List.length_append, List.length_cons, List.length_nil, ct_fl_len]; omega) (fun S3 d3 c3 => cp_r0 ?_)
          have c13 := cf_tr c12 c3
          refine cp_16 (by decide) (cp_r1 ?_)
          rw [cp_3rd (a := 44) (by decide) (dk_fr (Or.inl rfl) c13 t4) pb.1 lx ly]
          refine cp_52 (Or.inl rfl) d3 pz.1 lz (dk_fr (Or.inl rfl) c13 u5) (by simp only [List.length_append, List.length_cons, List.length_nil, ct_fl_len]; omega) (fun S4 d4 c4 => cp_r0 ?_)
          refine cz_95_256 _ _ _ _ _ _ ⟨Or.inr rfl, ?_⟩
          refine k S4 ?_ (cf_tr c13 c4)
          have e1 : ct_fl (ct_nd f x (ct_nd e a y .leaf) z) = [] ++ [f] ++ ct_fl x ++ [e] ++ ct_fl a ++ ct_fl y ++ ct_fl z := by
            rw [ct_fl_nd, ct_fl_nd]
            show f :: (ct_fl x ++ ((e :: (ct_fl a ++ (ct_fl y ++ []))) ++ ct_fl z)) = _
            simp
          show dk_d S4 (ct_fl (ct_nd f x (ct_nd e a y .leaf) z)) n
          rw [e1]
          exact d4
    have g97 : ∀ (q5 : Int32) (K3 : cm_K), (q5 = if 0 < ct_cn e.2.2.1 (ct_fl y) then 1 else 0) → (K3 = K2) → cm_At (am_XX L xs) (d + 5) 95 97 [some (.ref 37), some (.int (Int32.ofNat p)), some (.int (Int32.ofNat (p + 1 + ct_sz a))), some (.int 1), some (.int e.2.2.1), some (.int q5), none] [] S K3 := by
      intro q5 K3 h5 hK
      refine cz_95_97 _ _ _ _ _ ?_
      refine cp_16 (by decide) (cp_r1 ?_)
      rw [cp_3rd (a := 44) (by decide) t4 pb.1 lx ly]
      refine cp_25 (by decide) pz.1 lz u5 (cp_r1 ?_)
      rw [dk_pos (by omega)]
      exact ⟨fun hz => g124 _ _ _ h5 (by rw [if_pos hz]) (by simp only [dk_sh0]; exact hK), fun hz => g124 _ _ _ h5 (by rw [if_neg hz]) (by simp only [dk_sh0]; exact hK)⟩
    exact ⟨fun hy => g97 _ _ (by rw [if_pos hy]) (by simp only [dk_sh0]), fun hy => g97 _ _ (by rw [if_neg hy]) (by simp only [dk_sh0])⟩
  refine cz_95_0 _ ?_
  refine cp_15 (by decide) (cp_r1 ?_)
  rw [cp_2nd (a := 44) (by decide) ht hw.1 la]
  refine cp_8 (by decide) (cp_r1 ?_)
  rw [dk_k t4 pb.1 lb]
  simp only [dk_sh0]
  refine ⟨fun h12 => gy (Or.inl h12) K k, fun h12 => ?_⟩
  refine cp_8 (by decide) (cp_r1 ?_)
  rw [dk_k t4 pb.1 lb]
  simp only [dk_sh0]
  refine ⟨fun h13 => gy (Or.inr h13) K k, fun h13 => ?_⟩
  have hno : ¬ (dt_k b = 12 ∨ dt_k b = 13) := fun hc => hc.elim h12 h13
  rw [if_neg (fun hc => hno hc.2.1)] at k
  exact gn hno K k
/-- a LET out of a lambda -/
theorem cp_97 (hd : dk_d S [] n) (ht : ck_t S 44 p (ct_nd e a b c)) (hw : dt_w (ct_nd e a b c)) (hsz : ct_sz (ct_nd e a b c) < 50000) (k : dk_st (dt_fo n e a b c) S K) :
    cm_At (am_XX L xs) (d + 5) 97 0 [some (.ref 37), some (.int (Int32.ofNat p)), none, none, none] [] S K := by
  obtain ⟨p1, p2, pa, pb, pc⟩ := dt_w_nd hw
  have hszn := ct_sz_nd (e := e) (a := a) (b := b) (c := c)
  unfold dt_fo at k
  have gk := dk_k ht hw.1 dt_ndl
  rw [show dt_k (ct_nd e a b c) = e.1 from rfl] at gk
  have ht2 := ht
  rw [ck_t_nd] at ht2
  obtain ⟨t0, t1, t2, t3, t4, t5⟩ := ht2
  refine cz_97_0 _ ?_
  refine cp_14 (by decide) (cp_r1 ?_)
  rw [dk_1]
  refine cp_8 (by decide) (cp_r1 ?_)
  rw [gk]
  refine ⟨fun h4 => ?_, fun h4 => ?_⟩
  rotate_left
  · rw [if_neg (fun hc => h4 hc.1)] at k
    exact cz_97_34 _ _ ⟨Or.inl rfl, k⟩
  obtain ⟨la, lb, lc⟩ := ct_q1 hw.1 (Or.inl h4)
  refine cp_8 (by decide) (cp_r1 ?_)
  rw [dk_k t3 pa.1 la]
  refine ⟨fun h6 => ?_, fun h6 => ?_⟩
  rotate_left
  · rw [if_neg (fun hc => h6 hc.2.1)] at k
    exact cz_97_34 _ _ ⟨Or.inl rfl, k⟩
  obtain ⟨f, x, y, z, rfl⟩ := ct_cs pa.1 la
  have h6' : f.1 = 6 := h6
  obtain ⟨lx, ly, lz⟩ := ct_q2 pa.1 (Or.inr (Or.inl h6'))
  obtain ⟨q1, q2, px, py, pz⟩ := dt_w_nd pa
  have hsza := ct_sz_nd (e := f) (a := x) (b := y) (c := z)
  have t3' := t3
  rw [ck_t_nd] at t3'
  obtain ⟨u0, u1, u2, u3, u4, u5⟩ := t3'
  change dk_st (if e.1 = 4 ∧ dt_k (ct_nd f x y z) = 6 ∧ ct_cn e.2.2.1 (ct_fl x) = 0 ∧ ¬ dt_at (dt_k x) = true ∧ ¬ dt_k x = 4 then some (dt_lift e (ct_nd f x y z) b c, n) else none) S K at k
  have lex := Nat.le_trans (ct_cn_le (x := e.2.2.1) (ct_fl x)) (by rw [ct_fl_len]; exact Nat.le_refl _)
  refine cp_14 (by decide) (cp_r1 ?_)
  rw [dk_1]
  refine cp_9 (by decide) (cp_r1 ?_)
  rw [dk_v ht hw.1 dt_ndl, show (dt_e (ct_nd e (ct_nd f x y z) b c)).2.2.1 = e.2.2.1 from rfl]
  refine cp_25 (by decide) px.1 lx u3 (cp_r1 ?_)
  have i0 : Int32.ofNat (ct_cn e.2.2.1 (ct_fl x)) = 0 ↔ ct_cn e.2.2.1 (ct_fl x) = 0 := by rw [show (0 : Int32) = Int32.ofNat 0 from rfl, cp_inj (by omega) (by omega)]
  rw [i0]
  refine ⟨fun h0 => ?_, fun h0 => ?_⟩
  rotate_left
  · rw [if_neg (fun hc => h0 hc.2.2.1)] at k
    exact cz_97_71 _ _ _ _ ⟨fun _ => cz_97_96 _ _ _ _ ⟨Or.inl rfl, k⟩, fun h => absurd rfl h⟩
  refine cz_97_71 _ _ _ _ ⟨fun h => absurd h (by decide), fun _ => ?_⟩
  refine cp_91 u3 px.1 lx (cp_r1 ?_)
  by_cases hat : dt_at (dt_k x) = true
  · rw [if_neg (fun hc => hc.2.2.2.1 hat)] at k
    rw [if_pos hat]
    exact ⟨fun h => absurd h (by decide), fun _ => cz_97_96 _ _ _ _ ⟨Or.inl rfl, k⟩⟩
  rw [if_neg hat]
  refine ⟨fun _ => ?_, fun h => absurd rfl h⟩
  refine cp_8 (by decide) (cp_r1 ?_)
  rw [dk_k u3 px.1 lx]
  refine ⟨fun hx4 => ?_, fun hx4 => ?_⟩
  · rw [if_neg (fun hc => hc.2.2.2.2 hx4)] at k
    exact cz_97_96 _ _ _ _ ⟨Or.inl rfl, k⟩
  rw [if_pos ⟨h4, h6, h0, hat, hx4⟩] at k
  refine cp_51 (by decide) hd (by rw [List.length_nil]; omega) (fun S1 d1 c1 => cp_r0 ?_)
  rw [dk_gr (c := 44) (by decide) t3 pa.1 la, show dt_e (ct_nd f x y z) = f from rfl] at d1
  refine cp_52 (Or.inl rfl) d1 px.1 lx (dk_fr (Or.inl rfl) c1 u3) (by simp only [List.length_append, List.length_cons, List.length_nil]; omega) (fun S2 d2 c2 => cp_r0 ?_)
  have c12 := cf_tr c1 c2
  refine cp_51 (by decide) d2 (by simp only [List.length_append, List.length_cons, List.length_nil, ct_fl_len]; omega) (fun S3 d3 c3 => cp_r0 ?_)
  rw [dk_gr (c := 44) (by decide) (dk_fr (Or.inl rfl) c12 ht) hw.1 dt_ndl] at d3
  have c13 := cf_tr c12 c3
  refine cp_15 (by decide) (cp_r1 ?_)
  rw [cp_2nd (a := 44) (by decide) (dk_fr (Or.inl rfl) c13 t3) pa.1 lx]
  refine cp_52 (Or.inl rfl) d3 py.1 ly (dk_fr (Or.inl rfl) c13 u4) (by simp only [List.length_append, List.length_cons, List.length_nil, ct_fl_len]; omega) (fun S4 d4 c4 => cp_r0 ⟨Or.inr rfl, ?_⟩)
  refine k S4 ?_ (cf_tr c13 c4)
  have e1 : ct_fl (dt_lift e (ct_nd f x y z) b c) = [] ++ [f] ++ ct_fl x ++ [e] ++ ct_fl y := by
    show ct_fl (ct_nd f x (ct_nd e y b c) z) = _
    rw [ct_fl_nd, ct_fl_nd, lb, lc, lz]
    show f :: (ct_fl x ++ ((e :: (ct_fl y ++ ([] ++ []))) ++ [])) = _
    simp
  show dk_d S4 (ct_fl (dt_lift e (ct_nd f x y z) b c)) n
  rw [e1]
  exact d4
/-- a LET into a lambda -/
theorem cp_98 (hd : dk_d S [] n) (ht : ck_t S 44 p (ct_nd e a b c)) (hw : dt_w (ct_nd e a b c)) (hsz : ct_sz (ct_nd e a b c) < 50000) (k : dk_st (dt_ry n e a b) S K) :
    cm_At (am_XX L xs) (d + 5) 98 0 [some (.ref 37), some (.int (Int32.ofNat p)), none, none] [] S K := by
  obtain ⟨p1, p2, pa, pb, pc⟩ := dt_w_nd hw
  have hszn := ct_sz_nd (e := e) (a := a) (b := b) (c := c)
  unfold dt_ry at k
  have gk := dk_k ht hw.1 dt_ndl
  rw [show dt_k (ct_nd e a b c) = e.1 from rfl] at gk
  have ht2 := ht
  rw [ck_t_nd] at ht2
  obtain ⟨t0, t1, t2, t3, t4, t5⟩ := ht2
  refine cz_98_0 _ ?_
  refine cp_15 (by decide) (cp_r1 ?_)
  refine cp_8 (by decide) (cp_r1 ?_)
  rw [gk]
  refine ⟨fun h6 => ?_, fun h6 => ?_⟩
  rotate_left
  · rw [if_neg (fun hc => h6 hc.1)] at k
    exact cz_98_34 _ _ ⟨Or.inl rfl, k⟩
  obtain ⟨la, lb, lc⟩ := ct_q2 hw.1 (Or.inr (Or.inl h6))
  rw [cp_2nd (a := 44) (by decide) ht hw.1 la]
  refine cp_8 (by decide) (cp_r1 ?_)
  rw [dk_k t4 pb.1 lb]
  refine ⟨fun h4 => ?_, fun h4 => ?_⟩
  rotate_left
  · rw [if_neg (fun hc => h4 hc.2.1)] at k
    exact cz_98_34 _ _ ⟨Or.inl rfl, k⟩
  obtain ⟨f, x, y, z, rfl⟩ := ct_cs pb.1 lb
  have h4' : f.1 = 4 := h4
  obtain ⟨lx, ly, lz⟩ := ct_q1 pb.1 (Or.inl h4')
  obtain ⟨q1, q2, px, py, pz⟩ := dt_w_nd pb
  have hszb := ct_sz_nd (e := f) (a := x) (b := y) (c := z)
  have t4' := t4
  rw [ck_t_nd] at t4'
  obtain ⟨u0, u1, u2, u3, u4, u5⟩ := t4'
  change dk_st (if e.1 = 6 ∧ dt_k (ct_nd f x y z) = 4 ∧ (dt_k a = 1 ∨ dt_k a = 2 ∨ dt_k a = 4) then some (ct_nd f (ct_nd e a x .leaf) y z, n) else none) S K at k
  refine cp_14 (by decide) (cp_r1 ?_)
  rw [dk_1]
  refine cp_8 (by decide) (cp_r1 ?_)
  rw [dk_k t3 pa.1 la]
  have g69 : (dt_k a = 1 ∨ dt_k a = 2 ∨ dt_k a = 4) → cm_At (am_XX L xs) (d + 5) 98 69 [some (.ref 37), some (.int (Int32.ofNat p)), some (.int (Int32.ofNat (p + 1 + ct_sz a))), some (.int (dt_k a))] [] S K := fun hk => by
    rw [if_pos ⟨h6, h4, hk⟩] at k
    refine cz_98_69 _ _ _ ?_
    refine cp_51 (by decide) hd (by rw [List.length_nil]; omega) (fun S1 d1 c1 => cp_r0 ?_)
    rw [dk_gr (c := 44) (by decide) t4 pb.1 lb, show dt_e (ct_nd f x y z) = f from rfl] at d1
    refine cp_14 (by decide) (cp_r1 ?_)
    rw [dk_1]
    refine cp_96 d1 (dk_fr (Or.inl rfl) c1 ht) hw la (dk_fr (Or.inl rfl) c1 u3) px.1 lx (by simp only [List.length_append, List.length_cons, List.length_nil]; omega) (fun S2 d2 c2 => cp_r0 ⟨Or.inr rfl, ?_⟩)
    refine k S2 ?_ (cf_tr c1 c2)
    have e1 : ct_fl (ct_nd f (ct_nd e a x .leaf) y z) = [] ++ [f] ++ [e] ++ ct_fl a ++ ct_fl x := by
      rw [ct_fl_nd, ct_fl_nd, ly, lz]
      show f :: ((e :: (ct_fl a ++ (ct_fl x ++ []))) ++ ([] ++ [])) = _
      simp
    show dk_d S2 (ct_fl (ct_nd f (ct_nd e a x .leaf) y z)) n
    rw [e1]
    exact d2
  simp only [dk_sh0]
  refine ⟨fun h => g69 (Or.inl h), fun h1 => ⟨fun h => g69 (Or.inr (Or.inl h)), fun h2 => ⟨fun h => g69 (Or.inr (Or.inr h)), fun h3 => ⟨Or.inl trivial, ?_⟩⟩⟩⟩
  rw [if_neg (fun hc => by
    rcases hc.2.2 with h | h | h
    · exact h1 h
    · exact h2 h
    · exact h3 h)] at k
  exact k
end CPa05
