/-! ## 70 the law's case of steps -/
/-- the count of steps: the model's own when it has run -/
def cr_st (S : cm_S) : Prop := S.1 57 7 = if S.1 83 41 = 0 then 0 else S.1 83 42
section CP70
variable {L : Nat} {xs : Nat → Int32} {d n : Nat} {S : cm_S} {K : cm_K} {o5 o6 : Option Value}
theorem cr_steps (h : cr_st S) (k : cm_At (am_XX L xs) (d + 2) 300 1907 [some (.ref 1000000), some (.ref 0), some (.ref 83), some (.ref 132), some (.int (Int32.ofNat n)), o5, o6, none] [] (cm_wI S 83 75 0) K) :
    cm_At (am_XX L xs) (d + 2) 300 1781 [some (.ref 1000000), some (.ref 0), some (.ref 83), some (.ref 132), some (.int (Int32.ofNat n)), o5, o6, none] [] S K := by
  refine cx_300_1781 _ _ _ ?_
  refine cx_153_0 ?_
  rintro _ rfl
  refine cp_r1 ?_
  refine cx_268_0 ?_
  rintro _ rfl
  rintro _ rfl
  rw [cp_wI1, if_neg (by omega)]
  unfold cr_st at h
  refine ⟨fun h0 => cp_r1 ?_, fun h0 => ?_⟩
  · rw [if_pos h0] at h
    exact ⟨fun _ => cp_shz (cp_shz k), fun hc => absurd h hc⟩
  · rintro _ rfl
    rw [cp_wI1, if_neg (by omega)]
    rw [if_neg h0] at h
    exact cp_r1 ⟨fun _ => cp_shz (cp_shz k), fun hc => absurd h hc⟩
end CP70
