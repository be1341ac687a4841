/-! ## a13 the model's steps: primitives, floats, rules, all of them -/
set_option maxRecDepth 100000
set_option maxHeartbeats 4000000
theorem cw_221_0 {P : cm_P} {L : Nat} {xs : Nat → Int32} {d : Nat} {S : cm_S} {K : cm_K} (p0 : Int32) (p1 : Int64) (p2 : Int64) (h : (p0 = 0 → (K (.inl (some (.long (p1 + p2)))) S 0)) ∧ (¬ p0 = 0 → ((p0 = (1 : Int32) → (K (.inl (some (.long (p1 - p2)))) S 0)) ∧ (¬ p0 = (1 : Int32) → ((p0 = (2 : Int32) → (K (.inl (some (.long (p1 * p2)))) S 0)) ∧ (¬ p0 = (2 : Int32) → ((p0 = (3 : Int32) → (((lg_cmp p1 p2) < 0 → (P (d + 1) 221 52 [some (.int p0), some (.long p1), none, some (.long p2), none] [] S K)) ∧ (¬ (lg_cmp p1 p2) < 0 → (P (d + 1) 221 56 [some (.int p0), some (.long p1), none, some (.long p2), none] [] S K)))) ∧ (¬ p0 = (3 : Int32) → (((lg_cmp p1 p2) = 0 → (P (d + 1) 221 52 [some (.int p0), some (.long p1), none, some (.long p2), none] [] S K)) ∧ (¬ (lg_cmp p1 p2) = 0 → (P (d + 1) 221 56 [some (.int p0), some (.long p1), none, some (.long p2), none] [] S K))))))))))) : cm_st P (am_XX L xs) d cb_221 [] (cm_go P (am_XX L xs) d 221 cb_221 [] [52, 56] 400) 0 [some (.int p0), some (.long p1), none, some (.long p2), none] [] S K := h
theorem cz_221_0 {L : Nat} {xs : Nat → Int32} {d : Nat} {S : cm_S} {K : cm_K} (p0 : Int32) (p1 : Int64) (p2 : Int64) (h : (p0 = 0 → (K (.inl (some (.long (p1 + p2)))) S 0)) ∧ (¬ p0 = 0 → ((p0 = (1 : Int32) → (K (.inl (some (.long (p1 - p2)))) S 0)) ∧ (¬ p0 = (1 : Int32) → ((p0 = (2 : Int32) → (K (.inl (some (.long (p1 * p2)))) S 0)) ∧ (¬ p0 = (2 : Int32) → ((p0 = (3 : Int32) → (((lg_cmp p1 p2) < 0 → (cm_At (am_XX L xs) (d + 1) 221 52 [some (.int p0), some (.long p1), none, some (.long p2), none] [] S K)) ∧ (¬ (lg_cmp p1 p2) < 0 → (cm_At (am_XX L xs) (d + 1) 221 56 [some (.int p0), some (.long p1), none, some (.long p2), none] [] S K)))) ∧ (¬ p0 = (3 : Int32) → (((lg_cmp p1 p2) = 0 → (cm_At (am_XX L xs) (d + 1) 221 52 [some (.int p0), some (.long p1), none, some (.long p2), none] [] S K)) ∧ (¬ (lg_cmp p1 p2) = 0 → (cm_At (am_XX L xs) (d + 1) 221 56 [some (.int p0), some (.long p1), none, some (.long p2), none] [] S K))))))))))) : cm_At (am_XX L xs) (d + 1) 221 0 [some (.int p0), some (.long p1), none, some (.long p2), none] [] S K := cm_go1 (show am_TT 221 = some (am_B221, 5, []) from rfl) cb_221_ok (cw_221_0 (P := cm_At (am_XX L xs)) p0 p1 p2 h)
theorem cw_221_56 {P : cm_P} {L : Nat} {xs : Nat → Int32} {d : Nat} {S : cm_S} {K : cm_K} (q0 : Int32) (q1 : Int64) (q3 : Int64) (h : K (.inl (some (.long (0 : Int64)))) S 0) : cm_st P (am_XX L xs) d cb_221 [] (cm_go P (am_XX L xs) d 221 cb_221 [] [52, 56] 400) 56 [some (.int q0), some (.long q1), none, some (.long q3), none] [] S K := h
theorem cz_221_56 {L : Nat} {xs : Nat → Int32} {d : Nat} {S : cm_S} {K : cm_K} (q0 : Int32) (q1 : Int64) (q3 : Int64) (h : K (.inl (some (.long (0 : Int64)))) S 0) : cm_At (am_XX L xs) (d + 1) 221 56 [some (.int q0), some (.long q1), none, some (.long q3), none] [] S K := cm_go1 (show am_TT 221 = some (am_B221, 5, []) from rfl) cb_221_ok (cw_221_56 (P := cm_At (am_XX L xs)) q0 q1 q3 h)
theorem cw_221_52 {P : cm_P} {L : Nat} {xs : Nat → Int32} {d : Nat} {S : cm_S} {K : cm_K} (q0 : Int32) (q1 : Int64) (q3 : Int64) (h : K (.inl (some (.long (1 : Int64)))) S 0) : cm_st P (am_XX L xs) d cb_221 [] (cm_go P (am_XX L xs) d 221 cb_221 [] [52, 56] 400) 52 [some (.int q0), some (.long q1), none, some (.long q3), none] [] S K := h
theorem cz_221_52 {L : Nat} {xs : Nat → Int32} {d : Nat} {S : cm_S} {K : cm_K} (q0 : Int32) (q1 : Int64) (q3 : Int64) (h : K (.inl (some (.long (1 : Int64)))) S 0) : cm_At (am_XX L xs) (d + 1) 221 52 [some (.int q0), some (.long q1), none, some (.long q3), none] [] S K := cm_go1 (show am_TT 221 = some (am_B221, 5, []) from rfl) cb_221_ok (cw_221_52 (P := cm_At (am_XX L xs)) q0 q1 q3 h)
theorem cw_224_0 {P : cm_P} {L : Nat} {xs : Nat → Int32} {d : Nat} {S : cm_S} {K : cm_K} (p0 : Int32) (h : am_in p0 8192 ∧ ∀ x1, x1 = S.1 95 p0.toNatClampNeg → (am_in p0 8192 ∧ ∀ x2, x2 = S.1 92 p0.toNatClampNeg → ((x2 = (6 : Int32) → (am_in x1 8192 ∧ ∀ x3, x3 = S.1 92 x1.toNatClampNeg → ((x3 = (12 : Int32) → (P (d + 1) 224 40 [some (.ref 83), some (.int p0), some (.int x1), none, none, none] [] S K)) ∧ (¬ x3 = (12 : Int32) → (am_in x1 8192 ∧ ∀ x4, x4 = S.1 92 x1.toNatClampNeg → ((x4 = (13 : Int32) → (P (d + 1) 224 40 [some (.ref 83), some (.int p0), some (.int x1), none, none, none] [] S K)) ∧ (¬ x4 = (13 : Int32) → (P (d + 1) 224 63 [some (.ref 83), some (.int p0), some (.int x1), none, none, none] [] S K)))))))) ∧ (¬ x2 = (6 : Int32) → (P (d + 1) 224 63 [some (.ref 83), some (.int p0), some (.int x1), none, none, none] [] S K))))) : cm_st P (am_XX L xs) d cb_224 [] (cm_go P (am_XX L xs) d 224 cb_224 [] [40, 63, 65, 92, 95, 122, 125, 160, 181, 202] 400) 0 [some (.ref 83), some (.int p0), none, none, none, none] [] S K := h
theorem cz_224_0 {L : Nat} {xs : Nat → Int32} {d : Nat} {S : cm_S} {K : cm_K} (p0 : Int32) (h : am_in p0 8192 ∧ ∀ x1, x1 = S.1 95 p0.toNatClampNeg → (am_in p0 8192 ∧ ∀ x2, x2 = S.1 92 p0.toNatClampNeg → ((x2 = (6 : Int32) → (am_in x1 8192 ∧ ∀ x3, x3 = S.1 92 x1.toNatClampNeg → ((x3 = (12 : Int32) → (cm_At (am_XX L xs) (d + 1) 224 40 [some (.ref 83), some (.int p0), some (.int x1), none, none, none] [] S K)) ∧ (¬ x3 = (12 : Int32) → (am_in x1 8192 ∧ ∀ x4, x4 = S.1 92 x1.toNatClampNeg → ((x4 = (13 : Int32) → (cm_At (am_XX L xs) (d + 1) 224 40 [some (.ref 83), some (.int p0), some (.int x1), none, none, none] [] S K)) ∧ (¬ x4 = (13 : Int32) → (cm_At (am_XX L xs) (d + 1) 224 63 [some (.ref 83), some (.int p0), some (.int x1), none, none, none] [] S K)))))))) ∧ (¬ x2 = (6 : Int32) → (cm_At (am_XX L xs) (d + 1) 224 63 [some (.ref 83), some (.int p0), some (.int x1), none, none, none] [] S K))))) : cm_At (am_XX L xs) (d + 1) 224 0 [some (.ref 83), some (.int p0), none, none, none, none] [] S K := cm_go1 (show am_TT 224 = some (am_B224, 6, []) from rfl) cb_224_ok (cw_224_0 (P := cm_At (am_XX L xs)) p0 h)
theorem cw_224_63 {P : cm_P} {L : Nat} {xs : Nat → Int32} {d : Nat} {S : cm_S} {K : cm_K} (q1 : Int32) (q2 : Int32) (h : P (d + 1) 224 65 [some (.ref 83), some (.int q1), some (.int q2), some (.int (0 : Int32)), none, none] [] S K) : cm_st P (am_XX L xs) d cb_224 [] (cm_go P (am_XX L xs) d 224 cb_224 [] [40, 63, 65, 92, 95, 122, 125, 160, 181, 202] 400) 63 [some (.ref 83), some (.int q1), some (.int q2), none, none, none] [] S K := h
theorem cz_224_63 {L : Nat} {xs : Nat → Int32} {d : Nat} {S : cm_S} {K : cm_K} (q1 : Int32) (q2 : Int32) (h : cm_At (am_XX L xs) (d + 1) 224 65 [some (.ref 83), some (.int q1), some (.int q2), some (.int (0 : Int32)), none, none] [] S K) : cm_At (am_XX L xs) (d + 1) 224 63 [some (.ref 83), some (.int q1), some (.int q2), none, none, none] [] S K := cm_go1 (show am_TT 224 = some (am_B224, 6, []) from rfl) cb_224_ok (cw_224_63 (P := cm_At (am_XX L xs)) q1 q2 h)
theorem cw_224_40 {P : cm_P} {L : Nat} {xs : Nat → Int32} {d : Nat} {S : cm_S} {K : cm_K} (q1 : Int32) (q2 : Int32) (h : am_in q2 8192 ∧ ∀ x1, x1 = S.1 94 q2.toNatClampNeg → (am_in q1 8192 ∧ ∀ x2, x2 = S.1 97 q1.toNatClampNeg → (P d 205 0 [some (.ref 83), some (.int x1), some (.int x2)] [] S (fun r S3 k4 => cm_r1 (fun x6 => (x6 = 0 → (P (d + 1) 224 65 [some (.ref 83), some (.int q1), some (.int q2), some (.int (1 : Int32)), none, none] [] S3 (cm_sh K k4))) ∧ (¬ x6 = 0 → (P (d + 1) 224 63 [some (.ref 83), some (.int q1), some (.int q2), none, none, none] [] S3 (cm_sh K k4)))) (fun e5 => K (.inr e5) S3 k4) r)))) : cm_st P (am_XX L xs) d cb_224 [] (cm_go P (am_XX L xs) d 224 cb_224 [] [40, 63, 65, 92, 95, 122, 125, 160, 181, 202] 400) 40 [some (.ref 83), some (.int q1), some (.int q2), none, none, none] [] S K := h
theorem cz_224_40 {L : Nat} {xs : Nat → Int32} {d : Nat} {S : cm_S} {K : cm_K} (q1 : Int32) (q2 : Int32) (h : am_in q2 8192 ∧ ∀ x1, x1 = S.1 94 q2.toNatClampNeg → (am_in q1 8192 ∧ ∀ x2, x2 = S.1 97 q1.toNatClampNeg → (cm_At (am_XX L xs) d 205 0 [some (.ref 83), some (.int x1), some (.int x2)] [] S (fun r S3 k4 => cm_r1 (fun x6 => (x6 = 0 → (cm_At (am_XX L xs) (d + 1) 224 65 [some (.ref 83), some (.int q1), some (.int q2), some (.int (1 : Int32)), none, none] [] S3 (cm_sh K k4))) ∧ (¬ x6 = 0 → (cm_At (am_XX L xs) (d + 1) 224 63 [some (.ref 83), some (.int q1), some (.int q2), none, none, none] [] S3 (cm_sh K k4)))) (fun e5 => K (.inr e5) S3 k4) r)))) : cm_At (am_XX L xs) (d + 1) 224 40 [some (.ref 83), some (.int q1), some (.int q2), none, none, none] [] S K := cm_go1 (show am_TT 224 = some (am_B224, 6, []) from rfl) cb_224_ok (cw_224_40 (P := cm_At (am_XX L xs)) q1 q2 h)
theorem cw_224_65 {P : cm_P} {L : Nat} {xs : Nat → Int32} {d : Nat} {S : cm_S} {K : cm_K} (q1 : Int32) (q2 : Int32) (q3 : Int32) (h : (q3 = 0 → (P (d + 1) 224 92 [some (.ref 83), some (.int q1), some (.int q2), some (.int q3), none, none] [] S K)) ∧ (¬ q3 = 0 → (am_in q2 8192 ∧ ∀ x1, x1 = S.1 95 q2.toNatClampNeg → (am_in q1 8192 ∧ ∀ x2, x2 = S.1 97 q1.toNatClampNeg → (P d 205 0 [some (.ref 83), some (.int x1), some (.int x2)] [] S (fun r S3 k4 => cm_r1 (fun x6 => (0 < x6 → (P (d + 1) 224 95 [some (.ref 83), some (.int q1), some (.int q2), some (.int q3), some (.int (1 : Int32)), none] [] S3 (cm_sh K k4))) ∧ (¬ 0 < x6 → (P (d + 1) 224 92 [some (.ref 83), some (.int q1), some (.int q2), some (.int q3), none, none] [] S3 (cm_sh K k4)))) (fun e5 => K (.inr e5) S3 k4) r)))))) : cm_st P (am_XX L xs) d cb_224 [] (cm_go P (am_XX L xs) d 224 cb_224 [] [40, 63, 65, 92, 95, 122, 125, 160, 181, 202] 400) 65 [some (.ref 83), some (.int q1), some (.int q2), some (.int q3), none, none] [] S K := h
theorem cz_224_65 {L : Nat} {xs : Nat → Int32} {d : Nat} {S : cm_S} {K : cm_K} (q1 : Int32) (q2 : Int32) (q3 : Int32) (h : (q3 = 0 → (cm_At (am_XX L xs) (d + 1) 224 92 [some (.ref 83), some (.int q1), some (.int q2), some (.int q3), none, none] [] S K)) ∧ (¬ q3 = 0 → (am_in q2 8192 ∧ ∀ x1, x1 = S.1 95 q2.toNatClampNeg → (am_in q1 8192 ∧ ∀ x2, x2 = S.1 97 q1.toNatClampNeg → (cm_At (am_XX L xs) d 205 0 [some (.ref 83), some (.int x1), some (.int x2)] [] S (fun r S3 k4 => cm_r1 (fun x6 => (0 < x6 → (cm_At (am_XX L xs) (d + 1) 224 95 [some (.ref 83), some (.int q1), some (.int q2), some (.int q3), some (.int (1 : Int32)), none] [] S3 (cm_sh K k4))) ∧ (¬ 0 < x6 → (cm_At (am_XX L xs) (d + 1) 224 92 [some (.ref 83), some (.int q1), some (.int q2), some (.int q3), none, none] [] S3 (cm_sh K k4)))) (fun e5 => K (.inr e5) S3 k4) r)))))) : cm_At (am_XX L xs) (d + 1) 224 65 [some (.ref 83), some (.int q1), some (.int q2), some (.int q3), none, none] [] S K := cm_go1 (show am_TT 224 = some (am_B224, 6, []) from rfl) cb_224_ok (cw_224_65 (P := cm_At (am_XX L xs)) q1 q2 q3 h)
theorem cw_224_92 {P : cm_P} {L : Nat} {xs : Nat → Int32} {d : Nat} {S : cm_S} {K : cm_K} (q1 : Int32) (q2 : Int32) (q3 : Int32) (h : P (d + 1) 224 95 [some (.ref 83), some (.int q1), some (.int q2), some (.int q3), some (.int (0 : Int32)), none] [] S K) : cm_st P (am_XX L xs) d cb_224 [] (cm_go P (am_XX L xs) d 224 cb_224 [] [40, 63, 65, 92, 95, 122, 125, 160, 181, 202] 400) 92 [some (.ref 83), some (.int q1), some (.int q2), some (.int q3), none, none] [] S K := h
theorem cz_224_92 {L : Nat} {xs : Nat → Int32} {d : Nat} {S : cm_S} {K : cm_K} (q1 : Int32) (q2 : Int32) (q3 : Int32) (h : cm_At (am_XX L xs) (d + 1) 224 95 [some (.ref 83), some (.int q1), some (.int q2), some (.int q3), some (.int (0 : Int32)), none] [] S K) : cm_At (am_XX L xs) (d + 1) 224 92 [some (.ref 83), some (.int q1), some (.int q2), some (.int q3), none, none] [] S K := cm_go1 (show am_TT 224 = some (am_B224, 6, []) from rfl) cb_224_ok (cw_224_92 (P := cm_At (am_XX L xs)) q1 q2 q3 h)
theorem cw_224_95 {P : cm_P} {L : Nat} {xs : Nat → Int32} {d : Nat} {S : cm_S} {K : cm_K} (q1 : Int32) (q2 : Int32) (q3 : Int32) (q4 : Int32) (h : (q3 = 0 → (P (d + 1) 224 122 [some (.ref 83), some (.int q1), some (.int q2), some (.int q3), some (.int q4), none] [] S K)) ∧ (¬ q3 = 0 → (am_in q2 8192 ∧ ∀ x1, x1 = S.1 96 q2.toNatClampNeg → (am_in q1 8192 ∧ ∀ x2, x2 = S.1 97 q1.toNatClampNeg → (P d 205 0 [some (.ref 83), some (.int x1), some (.int x2)] [] S (fun r S3 k4 => cm_r1 (fun x6 => (0 < x6 → (P (d + 1) 224 125 [some (.ref 83), some (.int q1), some (.int q2), some (.int q3), some (.int q4), some (.int (1 : Int32))] [] S3 (cm_sh K k4))) ∧ (¬ 0 < x6 → (P (d + 1) 224 122 [some (.ref 83), some (.int q1), some (.int q2), some (.int q3), some (.int q4), none] [] S3 (cm_sh K k4)))) (fun e5 => K (.inr e5) S3 k4) r)))))) : cm_st P (am_XX L xs) d cb_224 [] (cm_go P (am_XX L xs) d 224 cb_224 [] [40, 63, 65, 92, 95, 122, 125, 160, 181, 202] 400) 95 [some (.ref 83), some (.int q1), some (.int q2), some (.int q3), some (.int q4), none] [] S K := h
theorem cz_224_95 {L : Nat} {xs : Nat → Int32} {d : Nat} {S : cm_S} {K : cm_K} (q1 : Int32) (q2 : Int32) (q3 : Int32) (q4 : Int32) (h : (q3 = 0 → (cm_At (am_XX L xs) (d + 1) 224 122 [some (.ref 83), some (.int q1), some (.int q2), some (.int q3), some (.int q4), none] [] S K)) ∧ (¬ q3 = 0 → (am_in q2 8192 ∧ ∀ x1, x1 = S.1 96 q2.toNatClampNeg → (am_in q1 8192 ∧ ∀ x2, x2 = S.1 97 q1.toNatClampNeg → (cm_At (am_XX L xs) d 205 0 [some (.ref 83), some (.int x1), some (.int x2)] [] S (fun r S3 k4 => cm_r1 (fun x6 => (0 < x6 → (cm_At (am_XX L xs) (d + 1) 224 125 [some (.ref 83), some (.int q1), some (.int q2), some (.int q3), some (.int q4), some (.int (1 : Int32))] [] S3 (cm_sh K k4))) ∧ (¬ 0 < x6 → (cm_At (am_XX L xs) (d + 1) 224 122 [some (.ref 83), some (.int q1), some (.int q2), some (.int q3), some (.int q4), none] [] S3 (cm_sh K k4)))) (fun e5 => K (.inr e5) S3 k4) r)))))) : cm_At (am_XX L xs) (d + 1) 224 95 [some (.ref 83), some (.int q1), some (.int q2), some (.int q3), some (.int q4), none] [] S K := cm_go1 (show am_TT 224 = some (am_B224, 6, []) from rfl) cb_224_ok (cw_224_95 (P := cm_At (am_XX L xs)) q1 q2 q3 q4 h)
theorem cw_224_122 {P : cm_P} {L : Nat} {xs : Nat → Int32} {d : Nat} {S : cm_S} {K : cm_K} (q1 : Int32) (q2 : Int32) (q3 : Int32) (q4 : Int32) (h : P (d + 1) 224 125 [some (.ref 83), some (.int q1), some (.int q2), some (.int q3), some (.int q4), some (.int (0 : Int32))] [] S K) : cm_st P (am_XX L xs) d cb_224 [] (cm_go P (am_XX L xs) d 224 cb_224 [] [40, 63, 65, 92, 95, 122, 125, 160, 181, 202] 400) 122 [some (.ref 83), some (.int q1), some (.int q2), some (.int q3), some (.int q4), none] [] S K := h
theorem cz_224_122 {L : Nat} {xs : Nat → Int32} {d : Nat} {S : cm_S} {K : cm_K} (q1 : Int32) (q2 : Int32) (q3 : Int32) (q4 : Int32) (h : cm_At (am_XX L xs) (d + 1) 224 125 [some (.ref 83), some (.int q1), some (.int q2), some (.int q3), some (.int q4), some (.int (0 : Int32))] [] S K) : cm_At (am_XX L xs) (d + 1) 224 122 [some (.ref 83), some (.int q1), some (.int q2), some (.int q3), some (.int q4), none] [] S K := cm_go1 (show am_TT 224 = some (am_B224, 6, []) from rfl) cb_224_ok (cw_224_122 (P := cm_At (am_XX L xs)) q1 q2 q3 q4 h)
theorem cw_224_125 {P : cm_P} {L : Nat} {xs : Nat → Int32} {d : Nat} {S : cm_S} {K : cm_K} (q1 : Int32) (q2 : Int32) (q3 : Int32) (q4 : Int32) (q5 : Int32) (h : (q4 = q5 → (K (.inl (some (.int (-1 : Int32)))) S 0)) ∧ (¬ q4 = q5 → ((q4 = 0 → (am_in q2 8192 ∧ ∀ x1, x1 = S.1 96 q2.toNatClampNeg → (am_in q1 8192 ∧ ∀ S2, S2 = cm_wI S 95 q1.toNatClampNeg x1 → (P (d + 1) 224 160 [some (.ref 83), some (.int q1), some (.int q2), some (.int q3), some (.int q4), some (.int q5)] [] S2 K)))) ∧ (¬ q4 = 0 → (am_in q2 8192 ∧ ∀ x3, x3 = S.1 95 q2.toNatClampNeg → (am_in q1 8192 ∧ ∀ S4, S4 = cm_wI S 95 q1.toNatClampNeg x3 → (P (d + 1) 224 160 [some (.ref 83), some (.int q1), some (.int q2), some (.int q3), some (.int q4), some (.int q5)] [] S4 K))))))) : cm_st P (am_XX L xs) d cb_224 [] (cm_go P (am_XX L xs) d 224 cb_224 [] [40, 63, 65, 92, 95, 122, 125, 160, 181, 202] 400) 125 [some (.ref 83), some (.int q1), some (.int q2), some (.int q3), some (.int q4), some (.int q5)] [] S K := h
theorem cz_224_125 {L : Nat} {xs : Nat → Int32} {d : Nat} {S : cm_S} {K : cm_K} (q1 : Int32) (q2 : Int32) (q3 : Int32) (q4 : Int32) (q5 : Int32) (h : (q4 = q5 → (K (.inl (some (.int (-1 : Int32)))) S 0)) ∧ (¬ q4 = q5 → ((q4 = 0 → (am_in q2 8192 ∧ ∀ x1, x1 = S.1 96 q2.toNatClampNeg → (am_in q1 8192 ∧ ∀ S2, S2 = cm_wI S 95 q1.toNatClampNeg x1 → (cm_At (am_XX L xs) (d + 1) 224 160 [some (.ref 83), some (.int q1), some (.int q2), some (.int q3), some (.int q4), some (.int q5)] [] S2 K)))) ∧ (¬ q4 = 0 → (am_in q2 8192 ∧ ∀ x3, x3 = S.1 95 q2.toNatClampNeg → (am_in q1 8192 ∧ ∀ S4, S4 = cm_wI S 95 q1.toNatClampNeg x3 → (cm_At (am_XX L xs) (d + 1) 224 160 [some (.ref 83), some (.int q1), some (.int q2), some (.int q3), some (.int q4), some (.int q5)] [] S4 K))))))) : cm_At (am_XX L xs) (d + 1) 224 125 [some (.ref 83), some (.int q1), some (.int q2), some (.int q3), some (.int q4), some (.int q5)] [] S K := cm_go1 (show am_TT 224 = some (am_B224, 6, []) from rfl) cb_224_ok (cw_224_125 (P := cm_At (am_XX L xs)) q1 q2 q3 q4 q5 h)
theorem cw_224_160 {P : cm_P} {L : Nat} {xs : Nat → Int32} {d : Nat} {S : cm_S} {K : cm_K} (q1 : Int32) (q2 : Int32) (q3 : Int32) (q4 : Int32) (q5 : Int32) (h : (q4 = 0 → (am_in q2 8192 ∧ ∀ x1, x1 = S.1 95 q2.toNatClampNeg → (am_in q2 8192 ∧ ∀ S2, S2 = cm_wI S 95 q2.toNatClampNeg x1 → (P (d + 1) 224 181 [some (.ref 83), some (.int q1), some (.int q2), some (.int q3), some (.int q4), some (.int q5)] [] S2 K)))) ∧ (¬ q4 = 0 → (am_in q2 8192 ∧ ∀ S3, S3 = cm_wI S 95 q2.toNatClampNeg q1 → (P (d + 1) 224 181 [some (.ref 83), some (.int q1), some (.int q2), some (.int q3), some (.int q4), some (.int q5)] [] S3 K)))) : cm_st P (am_XX L xs) d cb_224 [] (cm_go P (am_XX L xs) d 224 cb_224 [] [40, 63, 65, 92, 95, 122, 125, 160, 181, 202] 400) 160 [some (.ref 83), some (.int q1), some (.int q2), some (.int q3), some (.int q4), some (.int q5)] [] S K := h
theorem cz_224_160 {L : Nat} {xs : Nat → Int32} {d : Nat} {S : cm_S} {K : cm_K} (q1 : Int32) (q2 : Int32) (q3 : Int32) (q4 : Int32) (q5 : Int32) (h : (q4 = 0 → (am_in q2 8192 ∧ ∀ x1, x1 = S.1 95 q2.toNatClampNeg → (am_in q2 8192 ∧ ∀ S2, S2 = cm_wI S 95 q2.toNatClampNeg x1 → (cm_At (am_XX L xs) (d + 1) 224 181 [some (.ref 83), some (.int q1), some (.int q2), some (.int q3), some (.int q4), some (.int q5)] [] S2 K)))) ∧ (¬ q4 = 0 → (am_in q2 8192 ∧ ∀ S3, S3 = cm_wI S 95 q2.toNatClampNeg q1 → (cm_At (am_XX L xs) (d + 1) 224 181 [some (.ref 83), some (.int q1), some (.int q2), some (.int q3), some (.int q4), some (.int q5)] [] S3 K)))) : cm_At (am_XX L xs) (d + 1) 224 160 [some (.ref 83), some (.int q1), some (.int q2), some (.int q3), some (.int q4), some (.int q5)] [] S K := cm_go1 (show am_TT 224 = some (am_B224, 6, []) from rfl) cb_224_ok (cw_224_160 (P := cm_At (am_XX L xs)) q1 q2 q3 q4 q5 h)
theorem cw_224_181 {P : cm_P} {L : Nat} {xs : Nat → Int32} {d : Nat} {S : cm_S} {K : cm_K} (q1 : Int32) (q2 : Int32) (q3 : Int32) (q4 : Int32) (q5 : Int32) (h : (q5 = 0 → (am_in q2 8192 ∧ ∀ x1, x1 = S.1 96 q2.toNatClampNeg → (am_in q2 8192 ∧ ∀ S2, S2 = cm_wI S 96 q2.toNatClampNeg x1 → (P (d + 1) 224 202 [some (.ref 83), some (.int q1), some (.int q2), some (.int q3), some (.int q4), some (.int q5)] [] S2 K)))) ∧ (¬ q5 = 0 → (am_in q2 8192 ∧ ∀ S3, S3 = cm_wI S 96 q2.toNatClampNeg q1 → (P (d + 1) 224 202 [some (.ref 83), some (.int q1), some (.int q2), some (.int q3), some (.int q4), some (.int q5)] [] S3 K)))) : cm_st P (am_XX L xs) d cb_224 [] (cm_go P (am_XX L xs) d 224 cb_224 [] [40, 63, 65, 92, 95, 122, 125, 160, 181, 202] 400) 181 [some (.ref 83), some (.int q1), some (.int q2), some (.int q3), some (.int q4), some (.int q5)] [] S K := h
theorem cz_224_181 {L : Nat} {xs : Nat → Int32} {d : Nat} {S : cm_S} {K : cm_K} (q1 : Int32) (q2 : Int32) (q3 : Int32) (q4 : Int32) (q5 : Int32) (h : (q5 = 0 → (am_in q2 8192 ∧ ∀ x1, x1 = S.1 96 q2.toNatClampNeg → (am_in q2 8192 ∧ ∀ S2, S2 = cm_wI S 96 q2.toNatClampNeg x1 → (cm_At (am_XX L xs) (d + 1) 224 202 [some (.ref 83), some (.int q1), some (.int q2), some (.int q3), some (.int q4), some (.int q5)] [] S2 K)))) ∧ (¬ q5 = 0 → (am_in q2 8192 ∧ ∀ S3, S3 = cm_wI S 96 q2.toNatClampNeg q1 → (cm_At (am_XX L xs) (d + 1) 224 202 [some (.ref 83), some (.int q1), some (.int q2), some (.int q3), some (.int q4), some (.int q5)] [] S3 K)))) : cm_At (am_XX L xs) (d + 1) 224 181 [some (.ref 83), some (.int q1), some (.int q2), some (.int q3), some (.int q4), some (.int q5)] [] S K := cm_go1 (show am_TT 224 = some (am_B224, 6, []) from rfl) cb_224_ok (cw_224_181 (P := cm_At (am_XX L xs)) q1 q2 q3 q4 q5 h)
theorem cw_224_202 {P : cm_P} {L : Nat} {xs : Nat → Int32} {d : Nat} {S : cm_S} {K : cm_K} (q1 : Int32) (q2 : Int32) (q3 : Int32) (q4 : Int32) (q5 : Int32) (h : K (.inl (some (.int q2))) S 0) : cm_st P (am_XX L xs) d cb_224 [] (cm_go P (am_XX L xs) d 224 cb_224 [] [40, 63, 65, 92, 95, 122, 125, 160, 181, 202] 400) 202 [some (.ref 83), some (.int q1), some (.int q2), some (.int q3), some (.int q4), some (.int q5)] [] S K := h
theorem cz_224_202 {L : Nat} {xs : Nat → Int32} {d : Nat} {S : cm_S} {K : cm_K} (q1 : Int32) (q2 : Int32) (q3 : Int32) (q4 : Int32) (q5 : Int32) (h : K (.inl (some (.int q2))) S 0) : cm_At (am_XX L xs) (d + 1) 224 202 [some (.ref 83), some (.int q1), some (.int q2), some (.int q3), some (.int q4), some (.int q5)] [] S K := cm_go1 (show am_TT 224 = some (am_B224, 6, []) from rfl) cb_224_ok (cw_224_202 (P := cm_At (am_XX L xs)) q1 q2 q3 q4 q5 h)
theorem cw_225_0 {P : cm_P} {L : Nat} {xs : Nat → Int32} {d : Nat} {S : cm_S} {K : cm_K} (p0 : Int32) (h : am_in p0 8192 ∧ ∀ x1, x1 = S.1 94 p0.toNatClampNeg → (am_in p0 8192 ∧ ∀ x2, x2 = S.1 92 p0.toNatClampNeg → ((x2 = (4 : Int32) → (am_in x1 8192 ∧ ∀ x3, x3 = S.1 92 x1.toNatClampNeg → ((x3 = (6 : Int32) → (am_in x1 8192 ∧ ∀ x4, x4 = S.1 94 x1.toNatClampNeg → (am_in x4 8192 ∧ ∀ x5, x5 = S.1 92 x4.toNatClampNeg → (P d 174 0 [some (.int x5), some (.int (1 : Int32)), some (.int (4 : Int32))] [] S (fun r S6 k7 => cm_r1 (fun x9 => (x9 = 0 → (am_in x1 8192 ∧ ∀ x10, x10 = S6.1 94 x1.toNatClampNeg → (am_in p0 8192 ∧ ∀ x11, x11 = S6.1 97 p0.toNatClampNeg → (P d 205 0 [some (.ref 83), some (.int x10), some (.int x11)] [] S6 (fun r S12 k13 => cm_r1 (fun x15 => (x15 = 0 → (P (d + 1) 225 72 [some (.ref 83), some (.int p0), some (.int x1), some (.int (1 : Int32))] [] S12 (cm_sh (cm_sh K k7) k13))) ∧ (¬ x15 = 0 → (P (d + 1) 225 70 [some (.ref 83), some (.int p0), some (.int x1), none] [] S12 (cm_sh (cm_sh K k7) k13)))) (fun e14 => (cm_sh K k7) (.inr e14) S12 k13) r))))) ∧ (¬ x9 = 0 → (P (d + 1) 225 70 [some (.ref 83), some (.int p0), some (.int x1), none] [] S6 (cm_sh K k7)))) (fun e8 => K (.inr e8) S6 k7) r))))) ∧ (¬ x3 = (6 : Int32) → (P (d + 1) 225 70 [some (.ref 83), some (.int p0), some (.int x1), none] [] S K))))) ∧ (¬ x2 = (4 : Int32) → (P (d + 1) 225 70 [some (.ref 83), some (.int p0), some (.int x1), none] [] S K))))) : cm_st P (am_XX L xs) d cb_225 [] (cm_go P (am_XX L xs) d 225 cb_225 [] [70, 72] 400) 0 [some (.ref 83), some (.int p0), none, none] [] S K := h
theorem cz_225_0 {L : Nat} {xs : Nat → Int32} {d : Nat} {S : cm_S} {K : cm_K} (p0 : Int32) (h : am_in p0 8192 ∧ ∀ x1, x1 = S.1 94 p0.toNatClampNeg → (am_in p0 8192 ∧ ∀ x2, x2 = S.1 92 p0.toNatClampNeg → ((x2 = (4 : Int32) → (am_in x1 8192 ∧ ∀ x3, x3 = S.1 92 x1.toNatClampNeg → ((x3 = (6 : Int32) → (am_in x1 8192 ∧ ∀ x4, x4 = S.1 94 x1.toNatClampNeg → (am_in x4 8192 ∧ ∀ x5, x5 = S.1 92 x4.toNatClampNeg → (cm_At (am_XX L xs) d 174 0 [some (.int x5), some (.int (1 : Int32)), some (.int (4 : Int32))] [] S (fun r S6 k7 => cm_r1 (fun x9 => (x9 = 0 → (am_in x1 8192 ∧ ∀ x10, x10 = S6.1 94 x1.toNatClampNeg → (am_in p0 8192 ∧ ∀ x11, x11 = S6.1 97 p0.toNatClampNeg → (cm_At (am_XX L xs) d 205 0 [some (.ref 83), some (.int x10), some (.int x11)] [] S6 (fun r S12 k13 => cm_r1 (fun x15 => (x15 = 0 → (cm_At (am_XX L xs) (d + 1) 225 72 [some (.ref 83), some (.int p0), some (.int x1), some (.int (1 : Int32))] [] S12 (cm_sh (cm_sh K k7) k13))) ∧ (¬ x15 = 0 → (cm_At (am_XX L xs) (d + 1) 225 70 [some (.ref 83), some (.int p0), some (.int x1), none] [] S12 (cm_sh (cm_sh K k7) k13)))) (fun e14 => (cm_sh K k7) (.inr e14) S12 k13) r))))) ∧ (¬ x9 = 0 → (cm_At (am_XX L xs) (d + 1) 225 70 [some (.ref 83), some (.int p0), some (.int x1), none] [] S6 (cm_sh K k7)))) (fun e8 => K (.inr e8) S6 k7) r))))) ∧ (¬ x3 = (6 : Int32) → (cm_At (am_XX L xs) (d + 1) 225 70 [some (.ref 83), some (.int p0), some (.int x1), none] [] S K))))) ∧ (¬ x2 = (4 : Int32) → (cm_At (am_XX L xs) (d + 1) 225 70 [some (.ref 83), some (.int p0), some (.int x1), none] [] S K))))) : cm_At (am_XX L xs) (d + 1) 225 0 [some (.ref 83), some (.int p0), none, none] [] S K := cm_go1 (show am_TT 225 = some (am_B225, 4, []) from rfl) cb_225_ok (cw_225_0 (P := cm_At (am_XX L xs)) p0 h)
theorem cw_225_70 {P : cm_P} {L : Nat} {xs : Nat → Int32} {d : Nat} {S : cm_S} {K : cm_K} (q1 : Int32) (q2 : Int32) (h : P (d + 1) 225 72 [some (.ref 83), some (.int q1), some (.int q2), some (.int (0 : Int32))] [] S K) : cm_st P (am_XX L xs) d cb_225 [] (cm_go P (am_XX L xs) d 225 cb_225 [] [70, 72] 400) 70 [some (.ref 83), some (.int q1), some (.int q2), none] [] S K := h
theorem cz_225_70 {L : Nat} {xs : Nat → Int32} {d : Nat} {S : cm_S} {K : cm_K} (q1 : Int32) (q2 : Int32) (h : cm_At (am_XX L xs) (d + 1) 225 72 [some (.ref 83), some (.int q1), some (.int q2), some (.int (0 : Int32))] [] S K) : cm_At (am_XX L xs) (d + 1) 225 70 [some (.ref 83), some (.int q1), some (.int q2), none] [] S K := cm_go1 (show am_TT 225 = some (am_B225, 4, []) from rfl) cb_225_ok (cw_225_70 (P := cm_At (am_XX L xs)) q1 q2 h)
theorem cw_225_72 {P : cm_P} {L : Nat} {xs : Nat → Int32} {d : Nat} {S : cm_S} {K : cm_K} (q1 : Int32) (q2 : Int32) (q3 : Int32) (h : (q3 = 0 → (K (.inl (some (.int (-1 : Int32)))) S 0)) ∧ (¬ q3 = 0 → (P d 213 0 [some (.ref 83), some (.int q1), none] [] S (fun r S1 k2 => cm_r1 (fun x4 => (cm_sh K k2) (.inl (some (.int x4))) S1 0) (fun e3 => K (.inr e3) S1 k2) r)))) : cm_st P (am_XX L xs) d cb_225 [] (cm_go P (am_XX L xs) d 225 cb_225 [] [70, 72] 400) 72 [some (.ref 83), some (.int q1), some (.int q2), some (.int q3)] [] S K := h
theorem cz_225_72 {L : Nat} {xs : Nat → Int32} {d : Nat} {S : cm_S} {K : cm_K} (q1 : Int32) (q2 : Int32) (q3 : Int32) (h : (q3 = 0 → (K (.inl (some (.int (-1 : Int32)))) S 0)) ∧ (¬ q3 = 0 → (cm_At (am_XX L xs) d 213 0 [some (.ref 83), some (.int q1), none] [] S (fun r S1 k2 => cm_r1 (fun x4 => (cm_sh K k2) (.inl (some (.int x4))) S1 0) (fun e3 => K (.inr e3) S1 k2) r)))) : cm_At (am_XX L xs) (d + 1) 225 72 [some (.ref 83), some (.int q1), some (.int q2), some (.int q3)] [] S K := cm_go1 (show am_TT 225 = some (am_B225, 4, []) from rfl) cb_225_ok (cw_225_72 (P := cm_At (am_XX L xs)) q1 q2 q3 h)
theorem cw_226_0 {P : cm_P} {L : Nat} {xs : Nat → Int32} {d : Nat} {S : cm_S} {K : cm_K} (p0 : Int32) (h : am_in p0 8192 ∧ ∀ x1, x1 = S.1 95 p0.toNatClampNeg → (am_in p0 8192 ∧ ∀ x2, x2 = S.1 92 p0.toNatClampNeg → ((x2 = (6 : Int32) → (am_in x1 8192 ∧ ∀ x3, x3 = S.1 92 x1.toNatClampNeg → ((x3 = (4 : Int32) → (am_in p0 8192 ∧ ∀ x4, x4 = S.1 94 p0.toNatClampNeg → (am_in x4 8192 ∧ ∀ x5, x5 = S.1 92 x4.toNatClampNeg → ((x5 = (1 : Int32) → (P (d + 1) 226 73 [some (.ref 83), some (.int p0), some (.int x1), none] [] S K)) ∧ (¬ x5 = (1 : Int32) → (am_in p0 8192 ∧ ∀ x6, x6 = S.1 94 p0.toNatClampNeg → (am_in x6 8192 ∧ ∀ x7, x7 = S.1 92 x6.toNatClampNeg → ((x7 = (2 : Int32) → (P (d + 1) 226 73 [some (.ref 83), some (.int p0), some (.int x1), none] [] S K)) ∧ (¬ x7 = (2 : Int32) → (am_in p0 8192 ∧ ∀ x8, x8 = S.1 94 p0.toNatClampNeg → (am_in x8 8192 ∧ ∀ x9, x9 = S.1 92 x8.toNatClampNeg → ((x9 = (4 : Int32) → (P (d + 1) 226 73 [some (.ref 83), some (.int p0), some (.int x1), none] [] S K)) ∧ (¬ x9 = (4 : Int32) → (P (d + 1) 226 77 [some (.ref 83), some (.int p0), some (.int x1), none] [] S K)))))))))))))) ∧ (¬ x3 = (4 : Int32) → (P (d + 1) 226 77 [some (.ref 83), some (.int p0), some (.int x1), none] [] S K))))) ∧ (¬ x2 = (6 : Int32) → (P (d + 1) 226 77 [some (.ref 83), some (.int p0), some (.int x1), none] [] S K))))) : cm_st P (am_XX L xs) d cb_226 [] (cm_go P (am_XX L xs) d 226 cb_226 [] [73, 77, 79] 400) 0 [some (.ref 83), some (.int p0), none, none] [] S K := h
theorem cz_226_0 {L : Nat} {xs : Nat → Int32} {d : Nat} {S : cm_S} {K : cm_K} (p0 : Int32) (h : am_in p0 8192 ∧ ∀ x1, x1 = S.1 95 p0.toNatClampNeg → (am_in p0 8192 ∧ ∀ x2, x2 = S.1 92 p0.toNatClampNeg → ((x2 = (6 : Int32) → (am_in x1 8192 ∧ ∀ x3, x3 = S.1 92 x1.toNatClampNeg → ((x3 = (4 : Int32) → (am_in p0 8192 ∧ ∀ x4, x4 = S.1 94 p0.toNatClampNeg → (am_in x4 8192 ∧ ∀ x5, x5 = S.1 92 x4.toNatClampNeg → ((x5 = (1 : Int32) → (cm_At (am_XX L xs) (d + 1) 226 73 [some (.ref 83), some (.int p0), some (.int x1), none] [] S K)) ∧ (¬ x5 = (1 : Int32) → (am_in p0 8192 ∧ ∀ x6, x6 = S.1 94 p0.toNatClampNeg → (am_in x6 8192 ∧ ∀ x7, x7 = S.1 92 x6.toNatClampNeg → ((x7 = (2 : Int32) → (cm_At (am_XX L xs) (d + 1) 226 73 [some (.ref 83), some (.int p0), some (.int x1), none] [] S K)) ∧ (¬ x7 = (2 : Int32) → (am_in p0 8192 ∧ ∀ x8, x8 = S.1 94 p0.toNatClampNeg → (am_in x8 8192 ∧ ∀ x9, x9 = S.1 92 x8.toNatClampNeg → ((x9 = (4 : Int32) → (cm_At (am_XX L xs) (d + 1) 226 73 [some (.ref 83), some (.int p0), some (.int x1), none] [] S K)) ∧ (¬ x9 = (4 : Int32) → (cm_At (am_XX L xs) (d + 1) 226 77 [some (.ref 83), some (.int p0), some (.int x1), none] [] S K)))))))))))))) ∧ (¬ x3 = (4 : Int32) → (cm_At (am_XX L xs) (d + 1) 226 77 [some (.ref 83), some (.int p0), some (.int x1), none] [] S K))))) ∧ (¬ x2 = (6 : Int32) → (cm_At (am_XX L xs) (d + 1) 226 77 [some (.ref 83), some (.int p0), some (.int x1), none] [] S K))))) : cm_At (am_XX L xs) (d + 1) 226 0 [some (.ref 83), some (.int p0), none, none] [] S K := cm_go1 (show am_TT 226 = some (am_B226, 4, []) from rfl) cb_226_ok (cw_226_0 (P := cm_At (am_XX L xs)) p0 h)
theorem cw_226_77 {P : cm_P} {L : Nat} {xs : Nat → Int32} {d : Nat} {S : cm_S} {K : cm_K} (q1 : Int32) (q2 : Int32) (h : P (d + 1) 226 79 [some (.ref 83), some (.int q1), some (.int q2), some (.int (0 : Int32))] [] S K) : cm_st P (am_XX L xs) d cb_226 [] (cm_go P (am_XX L xs) d 226 cb_226 [] [73, 77, 79] 400) 77 [some (.ref 83), some (.int q1), some (.int q2), none] [] S K := h
theorem cz_226_77 {L : Nat} {xs : Nat → Int32} {d : Nat} {S : cm_S} {K : cm_K} (q1 : Int32) (q2 : Int32) (h : cm_At (am_XX L xs) (d + 1) 226 79 [some (.ref 83), some (.int q1), some (.int q2), some (.int (0 : Int32))] [] S K) : cm_At (am_XX L xs) (d + 1) 226 77 [some (.ref 83), some (.int q1), some (.int q2), none] [] S K := cm_go1 (show am_TT 226 = some (am_B226, 4, []) from rfl) cb_226_ok (cw_226_77 (P := cm_At (am_XX L xs)) q1 q2 h)
theorem cw_226_73 {P : cm_P} {L : Nat} {xs : Nat → Int32} {d : Nat} {S : cm_S} {K : cm_K} (q1 : Int32) (q2 : Int32) (h : P (d + 1) 226 79 [some (.ref 83), some (.int q1), some (.int q2), some (.int (1 : Int32))] [] S K) : cm_st P (am_XX L xs) d cb_226 [] (cm_go P (am_XX L xs) d 226 cb_226 [] [73, 77, 79] 400) 73 [some (.ref 83), some (.int q1), some (.int q2), none] [] S K := h
theorem cz_226_73 {L : Nat} {xs : Nat → Int32} {d : Nat} {S : cm_S} {K : cm_K} (q1 : Int32) (q2 : Int32) (h : cm_At (am_XX L xs) (d + 1) 226 79 [some (.ref 83), some (.int q1), some (.int q2), some (.int (1 : Int32))] [] S K) : cm_At (am_XX L xs) (d + 1) 226 73 [some (.ref 83), some (.int q1), some (.int q2), none] [] S K := cm_go1 (show am_TT 226 = some (am_B226, 4, []) from rfl) cb_226_ok (cw_226_73 (P := cm_At (am_XX L xs)) q1 q2 h)
theorem cw_226_79 {P : cm_P} {L : Nat} {xs : Nat → Int32} {d : Nat} {S : cm_S} {K : cm_K} (q1 : Int32) (q2 : Int32) (q3 : Int32) (h : (q3 = 0 → (K (.inl (some (.int (-1 : Int32)))) S 0)) ∧ (¬ q3 = 0 → (am_in q2 8192 ∧ ∀ x1, x1 = S.1 94 q2.toNatClampNeg → (am_in q1 8192 ∧ ∀ S2, S2 = cm_wI S 95 q1.toNatClampNeg x1 → (am_in q2 8192 ∧ ∀ S3, S3 = cm_wI S2 94 q2.toNatClampNeg q1 → (K (.inl (some (.int q2))) S3 0)))))) : cm_st P (am_XX L xs) d cb_226 [] (cm_go P (am_XX L xs) d 226 cb_226 [] [73, 77, 79] 400) 79 [some (.ref 83), some (.int q1), some (.int q2), some (.int q3)] [] S K := h
theorem cz_226_79 {L : Nat} {xs : Nat → Int32} {d : Nat} {S : cm_S} {K : cm_K} (q1 : Int32) (q2 : Int32) (q3 : Int32) (h : (q3 = 0 → (K (.inl (some (.int (-1 : Int32)))) S 0)) ∧ (¬ q3 = 0 → (am_in q2 8192 ∧ ∀ x1, x1 = S.1 94 q2.toNatClampNeg → (am_in q1 8192 ∧ ∀ S2, S2 = cm_wI S 95 q1.toNatClampNeg x1 → (am_in q2 8192 ∧ ∀ S3, S3 = cm_wI S2 94 q2.toNatClampNeg q1 → (K (.inl (some (.int q2))) S3 0)))))) : cm_At (am_XX L xs) (d + 1) 226 79 [some (.ref 83), some (.int q1), some (.int q2), some (.int q3)] [] S K := cm_go1 (show am_TT 226 = some (am_B226, 4, []) from rfl) cb_226_ok (cw_226_79 (P := cm_At (am_XX L xs)) q1 q2 q3 h)
theorem cw_228_0 {P : cm_P} {L : Nat} {xs : Nat → Int32} {d : Nat} {S : cm_S} {K : cm_K} (p0 : Int32) (h : am_in p0 8192 ∧ ∀ x1, x1 = S.1 92 p0.toNatClampNeg → ((x1 = (5 : Int32) → (P d 216 0 [some (.ref 83), some (.int p0), none, none, none] [] S (fun r S2 k3 => cm_r1 (fun x5 => P (d + 1) 228 20 [some (.ref 83), some (.int p0), some (.int x5), none] [] S2 (cm_sh K k3)) (fun e4 => K (.inr e4) S2 k3) r))) ∧ (¬ x1 = (5 : Int32) → (P (d + 1) 228 20 [some (.ref 83), some (.int p0), some (.int (-1 : Int32)), none] [] S K)))) : cm_st P (am_XX L xs) d cb_228 [] (cm_go P (am_XX L xs) d 228 cb_228 [] [20] 400) 0 [some (.ref 83), some (.int p0), none, none] [] S K := h
theorem cz_228_0 {L : Nat} {xs : Nat → Int32} {d : Nat} {S : cm_S} {K : cm_K} (p0 : Int32) (h : am_in p0 8192 ∧ ∀ x1, x1 = S.1 92 p0.toNatClampNeg → ((x1 = (5 : Int32) → (cm_At (am_XX L xs) d 216 0 [some (.ref 83), some (.int p0), none, none, none] [] S (fun r S2 k3 => cm_r1 (fun x5 => cm_At (am_XX L xs) (d + 1) 228 20 [some (.ref 83), some (.int p0), some (.int x5), none] [] S2 (cm_sh K k3)) (fun e4 => K (.inr e4) S2 k3) r))) ∧ (¬ x1 = (5 : Int32) → (cm_At (am_XX L xs) (d + 1) 228 20 [some (.ref 83), some (.int p0), some (.int (-1 : Int32)), none] [] S K)))) : cm_At (am_XX L xs) (d + 1) 228 0 [some (.ref 83), some (.int p0), none, none] [] S K := cm_go1 (show am_TT 228 = some (am_B228, 4, []) from rfl) cb_228_ok (cw_228_0 (P := cm_At (am_XX L xs)) p0 h)
theorem cw_228_20 {P : cm_P} {L : Nat} {xs : Nat → Int32} {d : Nat} {S : cm_S} {K : cm_K} (q1 : Int32) (q2 : Int32) (h : (q2 = (-1 : Int32) → (K (.inl (some (.int (-1 : Int32)))) S 0)) ∧ (¬ q2 = (-1 : Int32) → (am_in q1 8192 ∧ ∀ x1, x1 = S.1 95 q1.toNatClampNeg → (am_in q1 8192 ∧ ∀ x2, x2 = S.1 94 q1.toNatClampNeg → (am_in q2 10 ∧ ∀ x3, x3 = S.1 107 q2.toNatClampNeg → (am_in x2 8192 ∧ ∀ S4, S4 = cm_wJ S 93 x2.toNatClampNeg x3.toInt64 → (am_in x1 8192 ∧ ∀ x5, x5 = S4.1 95 x1.toNatClampNeg → (am_in q1 8192 ∧ ∀ S6, S6 = cm_wI S4 95 q1.toNatClampNeg x5 → (am_in x1 8192 ∧ ∀ x7, x7 = S6.1 94 x1.toNatClampNeg → (P d 194 0 [some (.ref 83), some (.int x7)] [] S6 (fun r S8 k9 => cm_r0 (P d 215 0 [some (.ref 83), some (.int x1)] [] S8 (fun r S11 k12 => cm_r0 ((cm_sh (cm_sh K k9) k12) (.inl (some (.int q1))) S11 0) (fun e13 => (cm_sh K k9) (.inr e13) S11 k12) r)) (fun e10 => K (.inr e10) S8 k9) r))))))))))) : cm_st P (am_XX L xs) d cb_228 [] (cm_go P (am_XX L xs) d 228 cb_228 [] [20] 400) 20 [some (.ref 83), some (.int q1), some (.int q2), none] [] S K := h
theorem cz_228_20 {L : Nat} {xs : Nat → Int32} {d : Nat} {S : cm_S} {K : cm_K} (q1 : Int32) (q2 : Int32) (h : (q2 = (-1 : Int32) → (K (.inl (some (.int (-1 : Int32)))) S 0)) ∧ (¬ q2 = (-1 : Int32) → (am_in q1 8192 ∧ ∀ x1, x1 = S.1 95 q1.toNatClampNeg → (am_in q1 8192 ∧ ∀ x2, x2 = S.1 94 q1.toNatClampNeg → (am_in q2 10 ∧ ∀ x3, x3 = S.1 107 q2.toNatClampNeg → (am_in x2 8192 ∧ ∀ S4, S4 = cm_wJ S 93 x2.toNatClampNeg x3.toInt64 → (am_in x1 8192 ∧ ∀ x5, x5 = S4.1 95 x1.toNatClampNeg → (am_in q1 8192 ∧ ∀ S6, S6 = cm_wI S4 95 q1.toNatClampNeg x5 → (am_in x1 8192 ∧ ∀ x7, x7 = S6.1 94 x1.toNatClampNeg → (cm_At (am_XX L xs) d 194 0 [some (.ref 83), some (.int x7)] [] S6 (fun r S8 k9 => cm_r0 (cm_At (am_XX L xs) d 215 0 [some (.ref 83), some (.int x1)] [] S8 (fun r S11 k12 => cm_r0 ((cm_sh (cm_sh K k9) k12) (.inl (some (.int q1))) S11 0) (fun e13 => (cm_sh K k9) (.inr e13) S11 k12) r)) (fun e10 => K (.inr e10) S8 k9) r))))))))))) : cm_At (am_XX L xs) (d + 1) 228 20 [some (.ref 83), some (.int q1), some (.int q2), none] [] S K := cm_go1 (show am_TT 228 = some (am_B228, 4, []) from rfl) cb_228_ok (cw_228_20 (P := cm_At (am_XX L xs)) q1 q2 h)
section CPa13
variable {L : Nat} {xs : Nat → Int32} {d : Nat} {S : cm_S} {K : cm_K} {i nx n c0 : Nat} {e : ct_D} {a b c : ct_T} {fa fb fc sp rest : List Nat} {pa pb pc : Int32}
theorem cp_221 {s x y : Int64} (k : K (.inl (some (.long (dt_cnt s x y)))) S 0) : cm_At (am_XX L xs) (d + 1) 221 0 [some (.int s.toInt32), some (.long x), none, some (.long y), none] [] S K := by
  unfold dt_cnt at k
  refine cz_221_0 _ _ _ ?_
  refine ⟨fun h => ?_, fun h0 => ⟨fun h => ?_, fun h1 => ⟨fun h => ?_, fun h2 => ⟨fun h => ⟨fun hl => cz_221_52 _ _ _ ?_, fun hl => cz_221_56 _ _ _ ?_⟩, fun h3 => ⟨fun hl => cz_221_52 _ _ _ ?_, fun hl => cz_221_56 _ _ _ ?_⟩⟩⟩⟩⟩
  · rw [if_pos h] at k; exact k
  · rw [if_neg h0, if_pos h] at k; exact k
  · rw [if_neg h0, if_neg h1, if_pos h] at k; exact k
  · rw [if_neg h0, if_neg h1, if_neg h2, if_pos h, if_pos (cu_lgl.mp hl)] at k; exact k
  · rw [if_neg h0, if_neg h1, if_neg h2, if_pos h, if_neg (fun hc => hl (cu_lgl.mpr hc))] at k; exact k
  · rw [if_neg h0, if_neg h1, if_neg h2, if_neg h3, if_pos (cu_lg.mp hl)] at k; exact k
  · rw [if_neg h0, if_neg h1, if_neg h2, if_neg h3, if_neg (fun hc => hl (cu_lg.mpr hc))] at k; exact k
/-- a PRIMITIVE -/
theorem cp_222 (h : dm_p S i e a b c fa fb fc pa pb pc sp nx rest n c0) (he : e.1 = 9) (k : dm_st (dt_pr n e a b) S rest c0 K) :
    cm_At (am_XX L xs) (d + 480) 222 0 [some (.ref 83), some (.int (Int32.ofNat i))] [] S K := by
  obtain ⟨hnn, ta, tb, tc, hhp, h20, hcs, hw, hc0⟩ := h
  obtain ⟨p1, p2, wa, wb, wc⟩ := dt_w_nd hw
  obtain ⟨la, lb, lc⟩ := ct_q2 hw.1 (Or.inr (Or.inr (Or.inr (Or.inr (Or.inl he)))))
  subst lc
  obtain ⟨rfl, rfl⟩ := tc
  have ta' := ta
  have tb' := tb
  obtain ⟨f, x, y, z, rfl⟩ := ct_cs wa.1 la
  obtain ⟨g, x2, y2, z2, rfl⟩ := ct_cs wb.1 lb
  obtain ⟨j, fx, fy, fz, px, py, pz, rfl, hnj, tx, ty, tz, rfl⟩ := cl_t_nn ta
  obtain ⟨m, gx, gy, gz, qx, qy, qz, rfl, hnm, ux, uy, uz, rfl⟩ := cl_t_nn tb
  have dj1 := cl_dj hhp
  have i8 := hnn.1
  have j8 := hnj.1
  have m8 := hnm.1
  have hnames := p1.2.2 (by rw [he]; decide)
  unfold dt_pr at k
  rw [show dt_k (ct_nd f x y z) = f.1 from rfl, show dt_k (ct_nd g x2 y2 z2) = g.1 from rfl, show (dt_e (ct_nd f x y z)).2.1 = f.2.1 from rfl, show (dt_e (ct_nd g x2 y2 z2)).2.1 = g.2.1 from rfl] at k
  refine cx_222_0 _ ⟨cp_in i8 (by decide), ?_⟩
  rw [cp_cl (by omega)]
  rintro _ rfl
  rw [hnn.2.2.1]
  refine ⟨cp_in j8 (by decide), ?_⟩
  rw [cp_cl (by omega)]
  rintro _ rfl
  rw [(dm_nk hnj).1]
  refine ⟨fun h1 => ⟨cp_in i8 (by decide), ?_⟩, fun h1 => ?_⟩
  rotate_left
  · rw [if_neg (fun hc => h1 hc.1)] at k
    exact k S cf_rfl
  rintro _ rfl
  rw [hnn.2.2.2.1]
  refine ⟨cp_in m8 (by decide), ?_⟩
  rw [cp_cl (by omega)]
  rintro _ rfl
  rw [(dm_nk hnm).1]
  refine ⟨fun h2 => ⟨cp_in i8 (by decide), ?_⟩, fun h2 => ?_⟩
  rotate_left
  · rw [if_neg (fun hc => h2 hc.2)] at k
    exact k S cf_rfl
  rw [if_pos ⟨h1, h2⟩] at k
  have hsz1 : ct_sz (ct_nd f x y z) = 1 := by
    obtain ⟨rfl, rfl, rfl⟩ := ct_q0 wa.1 (Or.inl h1)
    rfl
  have hsz2 : ct_sz (ct_nd g x2 y2 z2) = 1 := by
    obtain ⟨rfl, rfl, rfl⟩ := ct_q0 wb.1 (Or.inl h2)
    rfl
  rintro _ rfl
  rw [(dm_nk hnn).2.1]
  refine ⟨cp_in i8 (by decide), ?_⟩
  rintro _ rfl
  refine ⟨cp_in j8 (by decide), ?_⟩
  rw [cp_cl (by omega)]
  rintro _ rfl
  rw [(dm_nk hnj).2.1]
  refine ⟨cp_in i8 (by decide), ?_⟩
  rintro _ rfl
  refine ⟨cp_in m8 (by decide), ?_⟩
  rw [cp_cl (by omega)]
  rintro _ rfl
  rw [(dm_nk hnm).2.1]
  refine cp_221 (cp_r2 ⟨cp_in i8 (by decide), ?_⟩)
  rintro _ rfl
  refine ⟨cp_in i8 (by decide), ?_⟩
  rintro _ rfl
  have w2 : cf_W (cW_1 i) S (cm_wI (cm_wJ S 93 i (dt_cnt e.2.1 f.2.1 g.2.1)) 92 i 1) := cf_tr (cW_1J (by omega) (by omega)) (cW_1I (by omega) (by omega))
  have n2 : cl_nn (cm_wI (cm_wJ S 93 i (dt_cnt e.2.1 f.2.1 g.2.1)) 92 i 1) i (1, dt_cnt e.2.1 f.2.1 g.2.1, e.2.2) (Int32.ofNat j) (Int32.ofNat m) (-1) := cl_nn_k (cl_nn_n hnn)
  generalize cm_wI (cm_wJ S 93 i (dt_cnt e.2.1 f.2.1 g.2.1)) 92 i 1 = S2 at w2 n2 ⊢
  have ta2 := cl_t_1 wa.1 w2 dj1.1.1 ta'
  have tb2 := cl_t_1 wb.1 w2 dj1.1.2.1 tb'
  have hp2 := cl_hp_1 w2 hhp
  refine ⟨cp_in i8 (by decide), ?_⟩
  rintro _ rfl
  rw [n2.2.2.1]
  refine cp_194h (rest := (m :: (gx ++ (gy ++ gz))) ++ (i :: rest)) (by omega) wa.1 ta2 (cl_hp_to _ hp2 (fun y => by simp only [List.count_append, List.count_cons, List.count_nil]; omega)) (fun S3 sp3 hp3 f3 => cp_r0 ⟨cp_in i8 (by decide), ?_⟩)
  have n3 := cl_nn_frr f3 n2
  have tb3 := cl_t_frr wb.1 f3 tb2
  rintro _ rfl
  rw [n3.2.2.2.1]
  refine cp_194h (by omega) wb.1 tb3 hp3 (fun S4 sp4 hp4 f4 => cp_r0 ⟨cp_in i8 (by decide), ?_⟩)
  have n4 := cl_nn_frr f4 n3
  rintro _ rfl
  refine ⟨cp_in i8 (by decide), ?_⟩
  rintro _ rfl
  have w6 : cf_W (cW_1 i) S4 (cm_wI (cm_wI S4 94 i (-1)) 95 i (-1)) := cf_tr (cW_1I (by omega) (by omega)) (cW_1I (by omega) (by omega))
  have n6 := cl_nn_b (q := -1) (cl_nn_a (q := -1) n4)
  rw [show e.2.2 = (e.2.2.1, e.2.2.2) from rfl, hnames.1, hnames.2] at n6
  refine k _ i (i :: ([] ++ ([] ++ []))) sp4 nx c0 (cl_nn_t n6 (cl_t_lf.mpr ⟨rfl, rfl⟩) (cl_t_lf.mpr ⟨rfl, rfl⟩) (cl_t_lf.mpr ⟨rfl, rfl⟩)) i8 (cl_hp_1 w6 hp4) ?_ ?_ (Nat.le_refl _) (by omega) ?_
  · exact dm_20 w6 (decide_eq_false (by omega)) (dm_20 f4 (decide_eq_false (by omega)) (dm_20 f3 (decide_eq_false (by omega)) (dm_20 w2 (decide_eq_false (by omega)) h20)))
  · exact cl_cs_f w6 (decide_eq_false (by omega)) (fun j => decide_eq_false (by omega)) (cl_cs_f f4 (decide_eq_false (by omega)) (fun j => decide_eq_false (by omega)) (cl_cs_f f3 (decide_eq_false (by omega)) (fun j => decide_eq_false (by omega)) (cl_cs_f w2 (decide_eq_false (by omega)) (fun j => decide_eq_false (by omega)) hcs)))
  · exact cf_tr (cW_1mp dj1.1.2.2.2.2 dj1.1.2.2.2.1 w2) (cf_tr (cW_mp_fr f3) (cf_tr (cW_mp_fr f4) (cW_1mp dj1.1.2.2.2.2 dj1.1.2.2.2.1 w6)))
/-- simplifications -/
theorem cp_223 {U : Nat → ct_T} {G : ct_G} (hU : ct_ds U) (hdU : dm_d S U) (h : dm_p S i e a b c fa fb fc pa pb pc sp nx rest n c0) (hbd : dt_bd n (ct_nd e a b c)) (hgc : dt_gc n G (ct_nd e a b c)) (hlx : ct_lx G (ct_nd e a b c)) (hcap : dm_c (dt_si (dt_U (fun g => ct_pre (U g))) n e a b c) rest) (hn : n ≤ 32768) (hsa : ct_sz a ≤ 150) (hsb : ct_sz b ≤ 150) (hsc : ct_sz c ≤ 150) (k : dm_st (dt_si (dt_U (fun g => ct_pre (U g))) n e a b c) S rest c0 K) :
    cm_At (am_XX L xs) (d + 481) 223 0 [some (.ref 83), some (.int (Int32.ofNat i)), none] [] S K := by
  have out : ∀ {r : Option (ct_T × Nat)} {K2 : cm_K}, dm_st r S rest c0 K2 → dm_st r S rest c0 (fun r S2 k2 => cm_r1 (fun x => cm_sh K2 k2 (.inl (some (.int x))) S2 0) (fun e => K2 (.inr e) S2 k2) r) := fun {r K2} h => by
    cases r with
    | none => exact fun S2 f2 => h S2 f2
    | some q => exact fun S2 i2 fp2 sp2 nx2 c2 r1 r2 r3 r4 r5 r6 r7 r8 => h S2 i2 fp2 sp2 nx2 c2 r1 r2 r3 r4 r5 r6 r7 r8
  have i8 := h.1.1
  unfold dt_si at k hcap
  refine cx_223_0 _ ⟨cp_in i8 (by decide), ?_⟩
  rw [cp_cl (by omega)]
  rintro _ rfl
  rw [(dm_nk h.1).1]
  refine ⟨fun h5 => ?_, fun h5 => ?_⟩
  · rw [if_pos h5] at k hcap
    exact cp_217 hU hdU h h5 hcap hsa hsb (out k)
  rw [if_neg h5] at k hcap
  refine ⟨fun h6 => ?_, fun h6 => ?_⟩
  · rw [if_pos h6] at k hcap
    exact cp_218 h h6 hbd hgc hlx hcap hn hsa hsb (out k)
  rw [if_neg h6] at k hcap
  refine ⟨fun h12 => ?_, fun h12 => ?_⟩
  · rw [if_pos h12] at k hcap
    exact cp_219 h h12 hcap hsa hsb hsc (out k)
  rw [if_neg h12] at k hcap
  refine ⟨fun h13 => ?_, fun h13 => ?_⟩
  · rw [if_pos h13] at k
    exact cp_220 h h13 hsb hsc (out k)
  rw [if_neg h13] at k
  refine ⟨fun h9 => ?_, fun h9 => ?_⟩
  · rw [if_pos h9] at k
    exact cp_222 h h9 (out k)
  rw [if_neg h9] at k
  exact k S cf_rfl
/-- a LET into a part of a choice -/
theorem cp_224 (h : dm_p S i e a b c fa fb fc pa pb pc sp nx rest n c0) (hsb : ct_sz b ≤ 150) (k : dm_st (dt_fi n e a b) S rest c0 K) :
    cm_At (am_XX L xs) (d + 480) 224 0 [some (.ref 83), some (.int (Int32.ofNat i)), none, none, none, none] [] S K := by
  obtain ⟨hnn, ta, tb, tc, hhp, h20, hcs, hw, hc0⟩ := h
  obtain ⟨p1, p2, wa, wb, wc⟩ := dt_w_nd hw
  have i8 := hnn.1
  have dj1 := cl_dj hhp
  unfold dt_fi at k
  -- nothing to do
  have g63 : ∀ (q2 : Int32), K (.inl (some (.int (-1)))) S 0 → cm_At (am_XX L xs) (d + 480) 224 63 [some (.ref 83), some (.int (Int32.ofNat i)), some (.int q2), none, none, none] [] S K := fun q2 hk => by
    refine cz_224_63 _ _ (cz_224_65 _ _ _ ⟨fun _ => cz_224_92 _ _ _ (cz_224_95 _ _ _ _ ⟨fun _ => cz_224_122 _ _ _ _ (cz_224_125 _ _ _ _ _ ⟨fun _ => hk, fun h => absurd rfl h⟩), fun h => absurd rfl h⟩), fun h => absurd rfl h⟩)
  refine cz_224_0 _ ⟨cp_in i8 (by decide), ?_⟩
  rw [cp_cl (by omega)]
  rintro _ rfl
  rw [hnn.2.2.2.1]
  refine ⟨cp_in i8 (by decide), ?_⟩
  rintro _ rfl
  rw [(dm_nk hnn).1]
  refine ⟨fun h6 => ?_, fun h6 => ?_⟩
  rotate_left
  · rw [if_neg (fun hc => h6 hc.1)] at k
    exact g63 _ (k S cf_rfl)
  obtain ⟨la, lb, lc⟩ := ct_q2 hw.1 (Or.inr (Or.inl h6))
  subst lc
  obtain ⟨rfl, rfl⟩ := tc
  have tb' := tb
  obtain ⟨f, x, y, z, rfl⟩ := ct_cs wb.1 lb
  obtain ⟨q1, q2, wx, wy, wz⟩ := dt_w_nd wb
  obtain ⟨j, fx, fy, fz, px, py, pz, rfl, hnj, tx, ty, tz, rfl⟩ := cl_t_nn tb
  have hhp2 := cl_hp_to ((j :: (fx ++ (fy ++ fz))) ++ (i :: (fa ++ rest))) hhp (fun y => by simp only [List.count_append, List.count_cons, List.count_nil]; omega)
  have dj2 := cl_dj hhp2
  have j8 := hnj.1
  have hszb := ct_sz_nd (e := f) (a := x) (b := y) (c := z)
  have lex := Nat.le_trans (ct_cn_le (x := e.2.2.1) (ct_fl x)) (by rw [ct_fl_len]; exact Nat.le_refl _)
  have ley := Nat.le_trans (ct_cn_le (x := e.2.2.1) (ct_fl y)) (by rw [ct_fl_len]; exact Nat.le_refl _)
  have lez := Nat.le_trans (ct_cn_le (x := e.2.2.1) (ct_fl z)) (by rw [ct_fl_len]; exact Nat.le_refl _)
  have hij : ¬ i = j := fun hc => dj1.1.2.1 (by simp [hc])
  have vi := (dm_nk hnn).2.2.1
  change dm_st (if e.1 = 6 ∧ (f.1 = 12 ∨ f.1 = 13) ∧ ct_cn e.2.2.1 (ct_fl x) = 0 then
      (if 0 < ct_cn e.2.2.1 (ct_fl y) then
        (if 0 < ct_cn e.2.2.1 (ct_fl z) then none else some (ct_nd f x (ct_nd e a y .leaf) z, n))
      else (if 0 < ct_cn e.2.2.1 (ct_fl z) then some (ct_nd f x y (ct_nd e a z .leaf), n) else none))
      else none) S rest c0 K at k
  refine ⟨cp_in j8 (by decide), ?_⟩
  rw [cp_cl (by omega)]
  rintro _ rfl
  rw [(dm_nk hnj).1]
  have jx : ∀ {l : List Nat}, (∀ y, y ∈ l → y ∈ (i :: (fa ++ rest))) → ¬ j ∈ l := fun hl hc => dj2.1.2.2.2.1 (hl j hc)
  have ix : ∀ {l : List Nat}, (∀ y, y ∈ l → y ∈ (j :: (fx ++ (fy ++ fz)))) → ¬ i ∈ l := fun hl hc => dj1.1.2.1 (hl i hc)
  have g40 : (f.1 = 12 ∨ f.1 = 13) → cm_At (am_XX L xs) (d + 480) 224 40 [some (.ref 83), some (.int (Int32.ofNat i)), some (.int (Int32.ofNat j)), none, none, none] [] S K := by
    intro hc
    have g125 : ∀ (q4 q5 : Int32), ct_cn e.2.2.1 (ct_fl x) = 0 → (q4 = if 0 < ct_cn e.2.2.1 (ct_fl y) then 1 else 0) → (q5 = if 0 < ct_cn e.2.2.1 (ct_fl z) then 1 else 0) → cm_At (am_XX L xs) (d + 480) 224 125 [some (.ref 83), some (.int (Int32.ofNat i)), some (.int (Int32.ofNat j)), some (.int 1), some (.int q4), some (.int q5)] [] S K := by
      intro q4 q5 hx0 h4 h5
      rw [if_pos ⟨h6, hc, hx0⟩] at k
      by_cases hy : 0 < ct_cn e.2.2.1 (ct_fl y)
      · rw [if_pos hy] at k h4
        by_cases hz : 0 < ct_cn e.2.2.1 (ct_fl z)
        · rw [if_pos hz] at k h5
          refine cz_224_125 _ _ _ _ _ ⟨fun _ => k S cf_rfl, fun h => absurd (by rw [h4, h5]) h⟩
        · rw [if_neg hz] at k h5
          subst h4; subst h5
          refine cz_224_125 _ _ _ _ _ ⟨fun h => absurd h (by decide), fun _ => ⟨fun h => absurd h (by decide), fun _ => ⟨cp_in j8 (by decide), ?_⟩⟩⟩
          rw [cp_cl (by omega)]
          rintro _ rfl
          rw [hnj.2.2.2.1]
          refine ⟨cp_in i8 (by decide), ?_⟩
          rw [cp_cl (by omega)]
          rintro _ rfl
          have w1 : cf_W (cW_1 i) S (cm_wI S 95 i py) := cW_1I (by omega) (by omega)
          have n1 := cl_nn_b (q := py) hnn
          have m1 := cl_nn_1 w1 (fun hc => hij hc.symm) hnj
          have ta1 := cl_t_1 wa.1 w1 dj1.1.1 ta
          have tx1 := cl_t_1 wx.1 w1 (ix (fun y hy => by simp [hy])) tx
          have ty1 := cl_t_1 wy.1 w1 (ix (fun y hy => by simp [hy])) ty
          have tz1 := cl_t_1 wz.1 w1 (ix (fun y hy => by simp [hy])) tz
          have hp1 := cl_hp_1 w1 hhp
          have f1 := cW_1mp dj1.1.2.2.2.2 dj1.1.2.2.2.1 w1
          have g20 := dm_20 w1 (decide_eq_false (by omega)) h20
          have gcs := cl_cs_f w1 (decide_eq_false (by omega)) (fun j => decide_eq_false (by omega)) hcs
          generalize cm_wI S 95 i py = S1 at n1 m1 ta1 tx1 ty1 tz1 hp1 f1 g20 gcs ⊢
          refine cz_224_160 _ _ _ _ _ ⟨fun h => absurd h (by decide), fun _ => ⟨cp_in j8 (by decide), ?_⟩⟩
          rw [cp_cl (by omega)]
          rintro _ rfl
          have w2 : cf_W (cW_1 j) S1 (cm_wI S1 95 j (Int32.ofNat i)) := cW_1I (by omega) (by omega)
          have m2 := cl_nn_b (q := Int32.ofNat i) m1
          have n2 := cl_nn_1 w2 hij n1
          have ta2 := cl_t_1 wa.1 w2 (jx (fun y hy => by simp [hy])) ta1
          have tx2 := cl_t_1 wx.1 w2 dj2.1.1 tx1
          have ty2 := cl_t_1 wy.1 w2 dj2.1.2.1 ty1
          have tz2 := cl_t_1 wz.1 w2 dj2.1.2.2.1 tz1
          have hp2 := cl_hp_1 w2 hp1
          have f2 := cf_tr f1 (cW_1mp dj2.1.2.2.2.2 (jx (l := rest) (fun y hy => by simp [hy])) w2)
          have g20 := dm_20 w2 (decide_eq_false (by omega)) g20
          have gcs := cl_cs_f w2 (decide_eq_false (by omega)) (fun j => decide_eq_false (by omega)) gcs
          generalize cm_wI S1 95 j (Int32.ofNat i) = S2 at m2 n2 ta2 tx2 ty2 tz2 hp2 f2 g20 gcs ⊢
          refine cz_224_181 _ _ _ _ _ ⟨fun _ => ⟨cp_in j8 (by decide), ?_⟩, fun h => absurd rfl h⟩
          rw [cp_cl (by omega)]
          rintro _ rfl
          rw [m2.2.2.2.2]
          refine ⟨cp_in j8 (by decide), ?_⟩
          rintro _ rfl
          have w3 : cf_W (cW_1 j) S2 (cm_wI S2 96 j pz) := cW_1I (by omega) (by omega)
          refine cz_224_202 _ _ _ _ _ (k _ j _ sp nx c0 (cl_nn_t (cl_nn_c (q := pz) m2) (cl_t_1 wx.1 w3 dj2.1.1 tx2) (cl_nn_t (cl_nn_1 w3 hij n2) (cl_t_1 wa.1 w3 (jx (fun y hy => by simp [hy])) ta2) (cl_t_1 wy.1 w3 dj2.1.2.1 ty2) (cl_t_lf.mpr ⟨rfl, rfl⟩)) (cl_t_1 wz.1 w3 dj2.1.2.2.1 tz2)) j8 (cl_hp_1 w3 (cl_hp_to _ hp2 (fun y => by simp only [List.count_append, List.count_cons, List.count_nil]; omega))) (dm_20 w3 (decide_eq_false (by omega)) g20) (cl_cs_f w3 (decide_eq_false (by omega)) (fun j => decide_eq_false (by omega)) gcs) (Nat.le_refl _) (by omega) (cf_tr f2 (cW_1mp dj2.1.2.2.2.2 (jx (l := rest) (fun y hy => by simp [hy])) w3)))
      · rw [if_neg hy] at k h4
        by_cases hz : 0 < ct_cn e.2.2.1 (ct_fl z)
        · rw [if_pos hz] at k h5
          subst h4; subst h5
          refine cz_224_125 _ _ _ _ _ ⟨fun h => absurd h (by decide), fun _ => ⟨fun _ => ⟨cp_in j8 (by decide), ?_⟩, fun h => absurd rfl h⟩⟩
          rw [cp_cl (by omega)]
          rintro _ rfl
          rw [hnj.2.2.2.2]
          refine ⟨cp_in i8 (by decide), ?_⟩
          rw [cp_cl (by omega)]
          rintro _ rfl
          have w1 : cf_W (cW_1 i) S (cm_wI S 95 i pz) := cW_1I (by omega) (by omega)
          have n1 := cl_nn_b (q := pz) hnn
          have m1 := cl_nn_1 w1 (fun hc => hij hc.symm) hnj
          have ta1 := cl_t_1 wa.1 w1 dj1.1.1 ta
          have tx1 := cl_t_1 wx.1 w1 (ix (fun y hy => by simp [hy])) tx
          have ty1 := cl_t_1 wy.1 w1 (ix (fun y hy => by simp [hy])) ty
          have tz1 := cl_t_1 wz.1 w1 (ix (fun y hy => by simp [hy])) tz
          have hp1 := cl_hp_1 w1 hhp
          have f1 := cW_1mp dj1.1.2.2.2.2 dj1.1.2.2.2.1 w1
          have g20 := dm_20 w1 (decide_eq_false (by omega)) h20
          have gcs := cl_cs_f w1 (decide_eq_false (by omega)) (fun j => decide_eq_false (by omega)) hcs
          generalize cm_wI S 95 i pz = S1 at n1 m1 ta1 tx1 ty1 tz1 hp1 f1 g20 gcs ⊢
          refine cz_224_160 _ _ _ _ _ ⟨fun _ => ⟨cp_in j8 (by decide), ?_⟩, fun h => absurd rfl h⟩
          rw [cp_cl (by omega)]
          rintro _ rfl
          rw [m1.2.2.2.1]
          refine ⟨cp_in j8 (by decide), ?_⟩
          rintro _ rfl
          have w2 : cf_W (cW_1 j) S1 (cm_wI S1 95 j py) := cW_1I (by omega) (by omega)
          have m2 := cl_nn_b (q := py) m1
          have n2 := cl_nn_1 w2 hij n1
          have ta2 := cl_t_1 wa.1 w2 (jx (fun y hy => by simp [hy])) ta1
          have tx2 := cl_t_1 wx.1 w2 dj2.1.1 tx1
          have ty2 := cl_t_1 wy.1 w2 dj2.1.2.1 ty1
          have tz2 := cl_t_1 wz.1 w2 dj2.1.2.2.1 tz1
          have hp2 := cl_hp_1 w2 hp1
          have f2 := cf_tr f1 (cW_1mp dj2.1.2.2.2.2 (jx (l := rest) (fun y hy => by simp [hy])) w2)
          have g20 := dm_20 w2 (decide_eq_false (by omega)) g20
          have gcs := cl_cs_f w2 (decide_eq_false (by omega)) (fun j => decide_eq_false (by omega)) gcs
          generalize cm_wI S1 95 j py = S2 at m2 n2 ta2 tx2 ty2 tz2 hp2 f2 g20 gcs ⊢
          refine cz_224_181 _ _ _ _ _ ⟨fun h => absurd h (by decide), fun _ => ⟨cp_in j8 (by decide), ?_⟩⟩
          rw [cp_cl (by omega)]
          rintro _ rfl
          have w3 : cf_W (cW_1 j) S2 (cm_wI S2 96 j (Int32.ofNat i)) := cW_1I (by omega) (by omega)
          refine cz_224_202 _ _ _ _ _ (k _ j _ sp nx c0 (cl_nn_t (cl_nn_c (q := Int32.ofNat i) m2) (cl_t_1 wx.1 w3 dj2.1.1 tx2) (cl_t_1 wy.1 w3 dj2.1.2.1 ty2) (cl_nn_t (cl_nn_1 w3 hij n2) (cl_t_1 wa.1 w3 (jx (fun y hy => by simp [hy])) ta2) (cl_t_1 wz.1 w3 dj2.1.2.2.1 tz2) (cl_t_lf.mpr ⟨rfl, rfl⟩))) j8 (cl_hp_1 w3 (cl_hp_to _ hp2 (fun y => by simp only [List.count_append, List.count_cons, List.count_nil]; omega))) (dm_20 w3 (decide_eq_false (by omega)) g20) (cl_cs_f w3 (decide_eq_false (by omega)) (fun j => decide_eq_false (by omega)) gcs) (Nat.le_refl _) (by omega) (cf_tr f2 (cW_1mp dj2.1.2.2.2.2 (jx (l := rest) (fun y hy => by simp [hy])) w3)))
        · rw [if_neg hz] at k h5
          refine cz_224_125 _ _ _ _ _ ⟨fun _ => k S cf_rfl, fun h => absurd (by rw [h4, h5]) h⟩
    have g95 : ∀ (q4 : Int32), ct_cn e.2.2.1 (ct_fl x) = 0 → (q4 = if 0 < ct_cn e.2.2.1 (ct_fl y) then 1 else 0) → cm_At (am_XX L xs) (d + 480) 224 95 [some (.ref 83), some (.int (Int32.ofNat i)), some (.int (Int32.ofNat j)), some (.int 1), some (.int q4), none] [] S K := by
      intro q4 hx0 h4
      refine cz_224_95 _ _ _ _ ⟨fun h => absurd h (by decide), fun _ => ⟨cp_in j8 (by decide), ?_⟩⟩
      rw [cp_cl (by omega)]
      rintro _ rfl
      rw [hnj.2.2.2.2]
      refine ⟨cp_in i8 (by decide), ?_⟩
      rw [cp_cl (by omega)]
      rintro _ rfl
      rw [vi]
      refine cp_205D (by omega) wz.1 tz (cp_r1 ?_)
      rw [dk_pos (by omega)]
      simp only [dk_sh0]
      exact ⟨fun hz => g125 _ _ hx0 h4 (by rw [if_pos hz]), fun hz => cz_224_122 _ _ _ _ (g125 _ _ hx0 h4 (by rw [if_neg hz]))⟩
    refine cz_224_40 _ _ ⟨cp_in j8 (by decide), ?_⟩
    rw [cp_cl (by omega)]
    rintro _ rfl
    rw [hnj.2.2.1]
    refine ⟨cp_in i8 (by decide), ?_⟩
    rw [cp_cl (by omega)]
    rintro _ rfl
    rw [vi]
    refine cp_205D (by omega) wx.1 tx (cp_r1 ?_)
    have i0 : Int32.ofNat (ct_cn e.2.2.1 (ct_fl x)) = 0 ↔ ct_cn e.2.2.1 (ct_fl x) = 0 := by rw [show (0 : Int32) = Int32.ofNat 0 from rfl, cp_inj (by omega) (by omega)]
    rw [i0]
    simp only [dk_sh0]
    refine ⟨fun hx0 => ?_, fun hx0 => ?_⟩
    · refine cz_224_65 _ _ _ ⟨fun h => absurd h (by decide), fun _ => ⟨cp_in j8 (by decide), ?_⟩⟩
      rw [cp_cl (by omega)]
      rintro _ rfl
      rw [hnj.2.2.2.1]
      refine ⟨cp_in i8 (by decide), ?_⟩
      rw [cp_cl (by omega)]
      rintro _ rfl
      rw [vi]
      refine cp_205D (by omega) wy.1 ty (cp_r1 ?_)
      rw [dk_pos (by omega)]
      simp only [dk_sh0]
      exact ⟨fun hy => g95 _ hx0 (by rw [if_pos hy]), fun hy => cz_224_92 _ _ _ (g95 _ hx0 (by rw [if_neg hy]))⟩
    · rw [if_neg (fun hc => hx0 hc.2.2)] at k
      exact g63 _ (k S cf_rfl)
  refine ⟨fun h12 => g40 (Or.inl h12), fun h12 => ⟨cp_in j8 (by decide), ?_⟩⟩
  rintro _ rfl
  refine ⟨fun h13 => g40 (Or.inr h13), fun h13 => ?_⟩
  rw [if_neg (fun hc => hc.2.1.elim h12 h13)] at k
  exact g63 _ (k S cf_rfl)
/-- a LET out of a lambda -/
theorem cp_225 (h : dm_p S i e a b c fa fb fc pa pb pc sp nx rest n c0) (hsa : ct_sz a ≤ 150) (k : dm_st (dt_fo n e a b c) S rest c0 K) :
    cm_At (am_XX L xs) (d + 480) 225 0 [some (.ref 83), some (.int (Int32.ofNat i)), none, none] [] S K := by
  have h' := h
  obtain ⟨hnn, ta, tb, tc, hhp, h20, hcs, hw, hc0⟩ := h
  obtain ⟨p1, p2, wa, wb, wc⟩ := dt_w_nd hw
  have i8 := hnn.1
  unfold dt_fo at k
  have g70 : ∀ (q2 : Int32), K (.inl (some (.int (-1)))) S 0 → cm_At (am_XX L xs) (d + 480) 225 70 [some (.ref 83), some (.int (Int32.ofNat i)), some (.int q2), none] [] S K := fun q2 hk => cz_225_70 _ _ (cz_225_72 _ _ _ ⟨fun _ => hk, fun h => absurd rfl h⟩)
  refine cz_225_0 _ ⟨cp_in i8 (by decide), ?_⟩
  rw [cp_cl (by omega)]
  rintro _ rfl
  rw [hnn.2.2.1]
  refine ⟨cp_in i8 (by decide), ?_⟩
  rintro _ rfl
  rw [(dm_nk hnn).1]
  refine ⟨fun h4 => ?_, fun h4 => ?_⟩
  rotate_left
  · rw [if_neg (fun hc => h4 hc.1)] at k
    exact g70 _ (k S cf_rfl)
  obtain ⟨la, lb, lc⟩ := ct_q1 hw.1 (Or.inl h4)
  obtain ⟨f, x, y, z, rfl⟩ := ct_cs wa.1 la
  obtain ⟨q1, q2, wx, wy, wz⟩ := dt_w_nd wa
  obtain ⟨j, fx, fy, fz, px, py, pz, rfl, hnj, tx, ty, tz, rfl⟩ := cl_t_nn ta
  have j8 := hnj.1
  have hsza := ct_sz_nd (e := f) (a := x) (b := y) (c := z)
  change dm_st (if e.1 = 4 ∧ f.1 = 6 ∧ ct_cn e.2.2.1 (ct_fl x) = 0 ∧ ¬ dt_at (dt_k x) = true ∧ ¬ dt_k x = 4 then some (dt_lift e (ct_nd f x y z) b c, n) else none) S rest c0 K at k
  refine ⟨cp_in j8 (by decide), ?_⟩
  rw [cp_cl (by omega)]
  rintro _ rfl
  rw [(dm_nk hnj).1]
  refine ⟨fun h6 => ?_, fun h6 => ?_⟩
  rotate_left
  · rw [if_neg (fun hc => h6 hc.2.1)] at k
    exact g70 _ (k S cf_rfl)
  obtain ⟨lx, ly, lz⟩ := ct_q2 wa.1 (Or.inr (Or.inl h6))
  have tx' := tx
  have hkx : ∃ m, px = Int32.ofNat m ∧ m < 8192 ∧ S.1 92 m = dt_k x := by
    obtain ⟨f2, x2, y2, z2, rfl⟩ := ct_cs wx.1 lx
    obtain ⟨m, _, _, _, _, _, _, hm, hnm, _⟩ := cl_t_nn tx
    exact ⟨m, hm, hnm.1, (dm_nk hnm).1⟩
  obtain ⟨m, rfl, m8, km⟩ := hkx
  refine ⟨cp_in j8 (by decide), ?_⟩
  rintro _ rfl
  rw [hnj.2.2.1]
  refine ⟨cp_in m8 (by decide), ?_⟩
  rw [cp_cl (by omega)]
  rintro _ rfl
  rw [km]
  refine cp_174 (cp_r1 ?_)
  rw [show (1 : Int32).toInt = 1 from rfl, show (4 : Int32).toInt = 4 from rfl]
  have h14 : (1 ≤ (dt_k x).toInt ∧ (dt_k x).toInt ≤ 4) ↔ (dt_at (dt_k x) = true ∨ dt_k x = 4) := by
    rw [← dm_at_of, ← Int32.toInt_inj, show (4 : Int32).toInt = 4 from rfl]
    omega
  simp only [dk_sh0]
  by_cases hat : dt_at (dt_k x) = true ∨ dt_k x = 4
  · rw [if_pos (h14.mpr hat)]
    rw [if_neg (fun hc => by
      rcases hat with hh | hh
      · exact hc.2.2.2.1 hh
      · exact hc.2.2.2.2 hh)] at k
    exact ⟨fun h => absurd h (by decide), fun _ => g70 _ (k S cf_rfl)⟩
  rw [if_neg (fun hc => hat (h14.mp hc))]
  refine ⟨fun _ => ⟨cp_in j8 (by decide), ?_⟩, fun h => absurd rfl h⟩
  rintro _ rfl
  rw [hnj.2.2.1]
  refine ⟨cp_in i8 (by decide), ?_⟩
  rintro _ rfl
  rw [(dm_nk hnn).2.2.1]
  refine cp_205D (by omega) wx.1 tx' (cp_r1 ?_)
  have lex := Nat.le_trans (ct_cn_le (x := e.2.2.1) (ct_fl x)) (by rw [ct_fl_len]; exact Nat.le_refl _)
  have i0 : Int32.ofNat (ct_cn e.2.2.1 (ct_fl x)) = 0 ↔ ct_cn e.2.2.1 (ct_fl x) = 0 := by rw [show (0 : Int32) = Int32.ofNat 0 from rfl, cp_inj (by omega) (by omega)]
  rw [i0]
  simp only [dk_sh0]
  refine ⟨fun h0 => ?_, fun h0 => ?_⟩
  rotate_left
  · rw [if_neg (fun hc => h0 hc.2.2.1)] at k
    exact g70 _ (k S cf_rfl)
  rw [if_pos ⟨h4, h6, h0, fun hc => hat (Or.inl hc), fun hc => hat (Or.inr hc)⟩] at k
  refine cz_225_72 _ _ _ ⟨fun h => absurd h (by decide), fun _ => ?_⟩
  exact cp_213 h' la (fun S2 i2 fp2 sp2 nx2 c2 r1 r2 r3 r4 r5 r6 r7 r8 => k S2 i2 fp2 sp2 nx2 c2 r1 r2 r3 r4 r5 r6 r7 r8)
/-- a LET into a lambda -/
theorem cp_226 (h : dm_p S i e a b c fa fb fc pa pb pc sp nx rest n c0) (k : dm_st (dt_ry n e a b) S rest c0 K) :
    cm_At (am_XX L xs) (d + 480) 226 0 [some (.ref 83), some (.int (Int32.ofNat i)), none, none] [] S K := by
  obtain ⟨hnn, ta, tb, tc, hhp, h20, hcs, hw, hc0⟩ := h
  obtain ⟨p1, p2, wa, wb, wc⟩ := dt_w_nd hw
  have i8 := hnn.1
  have dj1 := cl_dj hhp
  unfold dt_ry at k
  have g77 : ∀ (q2 : Int32), K (.inl (some (.int (-1)))) S 0 → cm_At (am_XX L xs) (d + 480) 226 77 [some (.ref 83), some (.int (Int32.ofNat i)), some (.int q2), none] [] S K := fun q2 hk => cz_226_77 _ _ (cz_226_79 _ _ _ ⟨fun _ => hk, fun h => absurd rfl h⟩)
  refine cz_226_0 _ ⟨cp_in i8 (by decide), ?_⟩
  rw [cp_cl (by omega)]
  rintro _ rfl
  rw [hnn.2.2.2.1]
  refine ⟨cp_in i8 (by decide), ?_⟩
  rintro _ rfl
  rw [(dm_nk hnn).1]
  refine ⟨fun h6 => ?_, fun h6 => ?_⟩
  rotate_left
  · rw [if_neg (fun hc => h6 hc.1)] at k
    exact g77 _ (k S cf_rfl)
  obtain ⟨la, lb, lc⟩ := ct_q2 hw.1 (Or.inr (Or.inl h6))
  subst lc
  obtain ⟨rfl, rfl⟩ := tc
  obtain ⟨f, x, y, z, rfl⟩ := ct_cs wb.1 lb
  obtain ⟨q1, q2, wx, wy, wz⟩ := dt_w_nd wb
  obtain ⟨j, fx, fy, fz, px, py, pz, rfl, hnj, tx, ty, tz, rfl⟩ := cl_t_nn tb
  have hhp2 := cl_hp_to ((j :: (fx ++ (fy ++ fz))) ++ (i :: (fa ++ rest))) hhp (fun y => by simp only [List.count_append, List.count_cons, List.count_nil]; omega)
  have dj2 := cl_dj hhp2
  have j8 := hnj.1
  change dm_st (if e.1 = 6 ∧ f.1 = 4 ∧ (dt_k a = 1 ∨ dt_k a = 2 ∨ dt_k a = 4) then some (ct_nd f (ct_nd e a x .leaf) y z, n) else none) S rest c0 K at k
  refine ⟨cp_in j8 (by decide), ?_⟩
  rw [cp_cl (by omega)]
  rintro _ rfl
  rw [(dm_nk hnj).1]
  refine ⟨fun h4 => ?_, fun h4 => ?_⟩
  rotate_left
  · rw [if_neg (fun hc => h4 hc.2.1)] at k
    exact g77 _ (k S cf_rfl)
  have hka : ∃ m, pa = Int32.ofNat m ∧ m < 8192 ∧ S.1 92 m = dt_k a := by
    obtain ⟨f2, x2, y2, z2, rfl⟩ := ct_cs wa.1 la
    obtain ⟨m, _, _, _, _, _, _, hm, hnm, _⟩ := cl_t_nn ta
    exact ⟨m, hm, hnm.1, (dm_nk hnm).1⟩
  obtain ⟨m, rfl, m8, km⟩ := hka
  have hij : ¬ i = j := fun hc => dj1.1.2.1 (by simp [hc])
  have jx : ∀ {l : List Nat}, (∀ y, y ∈ l → y ∈ (i :: (fa ++ rest))) → ¬ j ∈ l := fun hl hc => dj2.1.2.2.2.1 (hl j hc)
  have ix : ∀ {l : List Nat}, (∀ y, y ∈ l → y ∈ (j :: (fx ++ (fy ++ fz)))) → ¬ i ∈ l := fun hl hc => dj1.1.2.1 (hl i hc)
  have g73 : (dt_k a = 1 ∨ dt_k a = 2 ∨ dt_k a = 4) → cm_At (am_XX L xs) (d + 480) 226 73 [some (.ref 83), some (.int (Int32.ofNat i)), some (.int (Int32.ofNat j)), none] [] S K := fun hk => by
    rw [if_pos ⟨h6, h4, hk⟩] at k
    refine cz_226_73 _ _ (cz_226_79 _ _ _ ⟨fun h => absurd h (by decide), fun _ => ⟨cp_in j8 (by decide), ?_⟩⟩)
    rw [cp_cl (by omega)]
    rintro _ rfl
    rw [hnj.2.2.1]
    refine ⟨cp_in i8 (by decide), ?_⟩
    rw [cp_cl (by omega)]
    rintro _ rfl
    refine ⟨cp_in j8 (by decide), ?_⟩
    rintro _ rfl
    have w1 : cf_W (cW_1 i) S (cm_wI S 95 i px) := cW_1I (by omega) (by omega)
    have w2 : cf_W (cW_1 j) (cm_wI S 95 i px) (cm_wI (cm_wI S 95 i px) 94 j (Int32.ofNat i)) := cW_1I (by omega) (by omega)
    have n2 := cl_nn_1 w2 hij (cl_nn_b (q := px) hnn)
    have m2 := cl_nn_a (q := Int32.ofNat i) (cl_nn_1 w1 (fun hc => hij hc.symm) hnj)
    have ta2 := cl_t_1 wa.1 w2 (jx (fun y hy => by simp [hy])) (cl_t_1 wa.1 w1 dj1.1.1 ta)
    have tx2 := cl_t_1 wx.1 w2 dj2.1.1 (cl_t_1 wx.1 w1 (ix (fun y hy => by simp [hy])) tx)
    have ty2 := cl_t_1 wy.1 w2 dj2.1.2.1 (cl_t_1 wy.1 w1 (ix (fun y hy => by simp [hy])) ty)
    have tz2 := cl_t_1 wz.1 w2 dj2.1.2.2.1 (cl_t_1 wz.1 w1 (ix (fun y hy => by simp [hy])) tz)
    exact k _ j _ sp nx c0 (cl_nn_t m2 (cl_nn_t n2 ta2 tx2 (cl_t_lf.mpr ⟨rfl, rfl⟩)) ty2 tz2) j8 (cl_hp_1 w2 (cl_hp_1 w1 (cl_hp_to _ hhp (fun y => by simp only [List.count_append, List.count_cons, List.count_nil]; omega)))) (dm_20 w2 (decide_eq_false (by omega)) (dm_20 w1 (decide_eq_false (by omega)) h20)) (cl_cs_f w2 (decide_eq_false (by omega)) (fun j => decide_eq_false (by omega)) (cl_cs_f w1 (decide_eq_false (by omega)) (fun j => decide_eq_false (by omega)) hcs)) (Nat.le_refl _) (by omega) (cf_tr (cW_1mp dj1.1.2.2.2.2 dj1.1.2.2.2.1 w1) (cW_1mp dj2.1.2.2.2.2 (jx (l := rest) (fun y hy => by simp [hy])) w2))
  refine ⟨cp_in i8 (by decide), ?_⟩
  rintro _ rfl
  rw [hnn.2.2.1]
  refine ⟨cp_in m8 (by decide), ?_⟩
  rw [cp_cl (by omega)]
  rintro _ rfl
  rw [km]
  refine ⟨fun h1 => g73 (Or.inl h1), fun h1 => ⟨cp_in i8 (by decide), ?_⟩⟩
  rintro _ rfl
  refine ⟨cp_in m8 (by decide), ?_⟩
  rw [cp_cl (by omega)]
  rintro _ rfl
  rw [km]
  refine ⟨fun h2 => g73 (Or.inr (Or.inl h2)), fun h2 => ⟨cp_in i8 (by decide), ?_⟩⟩
  rintro _ rfl
  refine ⟨cp_in m8 (by decide), ?_⟩
  rw [cp_cl (by omega)]
  rintro _ rfl
  rw [km]
  refine ⟨fun h3 => g73 (Or.inr (Or.inr h3)), fun h3 => ?_⟩
  rw [if_neg (fun hc => by
    rcases hc.2.2 with h | h | h
    · exact h1 h
    · exact h2 h
    · exact h3 h)] at k
  exact g77 _ (k S cf_rfl)
end CPa13
