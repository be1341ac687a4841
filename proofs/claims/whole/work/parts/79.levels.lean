/-! ## 79 the model's sets of variables -/
def cl_sb (S : cm_S) (l : Nat) (f : Nat → Bool) : Prop := ∀ w b, w < 5 → b < 64 → cu_b (S.2 112 (5 * l + w)) b = f (64 * w + b)
def cW_lv (lo hi b j : Nat) : Bool := decide (b = 112 ∧ 5 * lo ≤ j ∧ j < 5 * hi)
theorem cl_sb_cf {W : Nat → Nat → Bool} {S S2 : cm_S} {p : Nat} {f : Nat → Bool} (hc : cf_W W S S2) (hd : ∀ j, 5 * p ≤ j → j < 5 * p + 5 → W 112 j = false) (h : cl_sb S p f) : cl_sb S2 p f := fun w b hw hb => by
  rw [(hc 112 (5 * p + w) (hd _ (by omega) (by omega))).2]
  exact h w b hw hb
theorem cu_dw {v : Nat} (h : v < 320) : Int32.ofNat v / 64 = Int32.ofNat (v / 64) ∧ Int32.ofNat v - Int32.ofNat v / 64 * 64 = Int32.ofNat (v % 64) := by
  have h2 : ∀ v : Fin 320, Int32.ofNat v.val / 64 = Int32.ofNat (v.val / 64) ∧ Int32.ofNat v.val - Int32.ofNat v.val / 64 * 64 = Int32.ofNat (v.val % 64) := by decide +kernel
  exact h2 ⟨v, h⟩
theorem cu_5 {l w : Nat} : (5 : Int32) * Int32.ofNat l + Int32.ofNat w = Int32.ofNat (5 * l + w) := by
  rw [show (5 : Int32) = Int32.ofNat 5 from rfl, cp_ml, cp_ad]
section CP79
variable {L : Nat} {xs : Nat → Int32} {d : Nat}
/-- the set of a level is emptied -/
theorem cp_241z {S : cm_S} {K : cm_K} {l : Nat} {q1 : Int32} (hl : l < 398)
    (k : ∀ S2, cf_W (cW_lv l (l + 1)) S S2 → S2.1 = S.1 → cl_sb S2 l (fun _ => false) → cm_At (am_XX L xs) (d + 1) 241 2 [some (.ref 83), some (.int q1), some (.int (Int32.ofNat l)), some (.int 5), none] [] S2 K) :
    cm_At (am_XX L xs) (d + 1) 241 0 [some (.ref 83), some (.int q1), some (.int (Int32.ofNat l)), none, none] [] S K := by
  have st : ∀ (w : Nat) (S : cm_S) (K : cm_K), w < 5 → (cm_At (am_XX L xs) (d + 1) 241 2 [some (.ref 83), some (.int q1), some (.int (Int32.ofNat l)), some (.int (Int32.ofNat (w + 1))), none] [] (cm_wJ S 112 (5 * l + w) 0) K) → cm_At (am_XX L xs) (d + 1) 241 2 [some (.ref 83), some (.int q1), some (.int (Int32.ofNat l)), some (.int (Int32.ofNat w)), none] [] S K := by
    intro w S K hw k
    refine cx_241_2 _ _ _ ⟨fun _ => ?_, fun h => absurd ?_ h⟩
    · rw [cu_5]
      refine ⟨cp_in (by omega) (by decide), ?_⟩
      rintro _ rfl
      rw [cp_cl (by omega), show Int32.ofNat w + 1 = Int32.ofNat (w + 1) from cp_ad (b := 1)]
      exact k
    · rw [show (5 : Int32) = Int32.ofNat 5 from rfl, cp_lt (by omega) (by omega)]; exact hw
  refine cx_241_0 _ _ ?_
  refine st 0 S K (by omega) ?_
  refine st 1 _ K (by omega) ?_
  refine st 2 _ K (by omega) ?_
  refine st 3 _ K (by omega) ?_
  refine st 4 _ K (by omega) ?_
  refine k _ (cf_tr (cf_tr (cf_tr (cf_tr (cf_wJ (decide_eq_true (by omega))) (cf_wJ (decide_eq_true (by omega)))) (cf_wJ (decide_eq_true (by omega)))) (cf_wJ (decide_eq_true (by omega)))) (cf_wJ (decide_eq_true (by omega)))) rfl ?_
  intro w b hw hb
  have hx : (cm_wJ (cm_wJ (cm_wJ (cm_wJ (cm_wJ S 112 (5 * l + 0) 0) 112 (5 * l + 1) 0) 112 (5 * l + 2) 0) 112 (5 * l + 3) 0) 112 (5 * l + 4) 0).2 112 (5 * l + w) = 0 := by
    rcases w with _ | _ | _ | _ | _ | w
    · rw [cp_wJ2, if_neg (by omega), cp_wJ2, if_neg (by omega), cp_wJ2, if_neg (by omega), cp_wJ2, if_neg (by omega), cp_wJ2, if_pos ⟨rfl, rfl⟩]
    · rw [cp_wJ2, if_neg (by omega), cp_wJ2, if_neg (by omega), cp_wJ2, if_neg (by omega), cp_wJ2, if_pos ⟨rfl, rfl⟩]
    · rw [cp_wJ2, if_neg (by omega), cp_wJ2, if_neg (by omega), cp_wJ2, if_pos ⟨rfl, rfl⟩]
    · rw [cp_wJ2, if_neg (by omega), cp_wJ2, if_pos ⟨rfl, rfl⟩]
    · rw [cp_wJ2, if_pos ⟨rfl, rfl⟩]
    · omega
  rw [hx, cu_b_z]
/-- a level is added to another -/
theorem cp_239 {S : cm_S} {K : cm_K} {l m : Nat} (hl : l < 398) (hm : m < 399) (hne : ¬ l = m)
    (k : ∀ S2, cf_W (cW_lv l (l + 1)) S S2 → S2.1 = S.1 → (∀ f g, cl_sb S l f → cl_sb S m g → cl_sb S2 l (fun v => f v || g v)) → K (.inl none) S2 0) :
    cm_At (am_XX L xs) (d + 1) 239 0 [some (.ref 83), some (.int (Int32.ofNat l)), some (.int (Int32.ofNat m)), none] [] S K := by
  have st : ∀ (w : Nat) (S : cm_S) (K : cm_K), w < 5 → (cm_At (am_XX L xs) (d + 1) 239 2 [some (.ref 83), some (.int (Int32.ofNat l)), some (.int (Int32.ofNat m)), some (.int (Int32.ofNat (w + 1)))] [] (cm_wJ S 112 (5 * l + w) (S.2 112 (5 * l + w) ||| S.2 112 (5 * m + w))) K) → cm_At (am_XX L xs) (d + 1) 239 2 [some (.ref 83), some (.int (Int32.ofNat l)), some (.int (Int32.ofNat m)), some (.int (Int32.ofNat w))] [] S K := by
    intro w S K hw k
    refine cx_239_2 _ _ _ ⟨fun _ => ?_, fun h => absurd ?_ h⟩
    · rw [cu_5, cu_5]
      refine ⟨cp_in (by omega) (by decide), ?_⟩
      rintro _ rfl
      refine ⟨cp_in (by omega) (by decide), ?_⟩
      rintro _ rfl
      refine ⟨cp_in (by omega) (by decide), ?_⟩
      rintro _ rfl
      rw [cp_cl (by omega), cp_cl (by omega), show Int32.ofNat w + 1 = Int32.ofNat (w + 1) from cp_ad (b := 1)]
      exact k
    · rw [show (5 : Int32) = Int32.ofNat 5 from rfl, cp_lt (by omega) (by omega)]; exact hw
  refine cx_239_0 _ _ ?_
  refine st 0 S K (by omega) ?_
  refine st 1 _ K (by omega) ?_
  refine st 2 _ K (by omega) ?_
  refine st 3 _ K (by omega) ?_
  refine st 4 _ K (by omega) ?_
  refine cx_239_2 _ _ _ ⟨fun h => absurd h (by decide), fun _ => ?_⟩
  refine k _ (cf_tr (cf_tr (cf_tr (cf_tr (cf_wJ (decide_eq_true (by omega))) (cf_wJ (decide_eq_true (by omega)))) (cf_wJ (decide_eq_true (by omega)))) (cf_wJ (decide_eq_true (by omega)))) (cf_wJ (decide_eq_true (by omega)))) rfl ?_
  intro f g hf hg w b hw hb
  show _ = (f (64 * w + b) || g (64 * w + b))
  rw [← hf w b hw hb, ← hg w b hw hb, ← cu_b_or]
  refine congrArg (fun x => cu_b x b) ?_
  rcases w with _ | _ | _ | _ | _ | w
  · rw [cp_wJ2, if_neg (by omega), cp_wJ2, if_neg (by omega), cp_wJ2, if_neg (by omega), cp_wJ2, if_neg (by omega), cp_wJ2, if_pos ⟨rfl, rfl⟩]
  · rw [cp_wJ2, if_neg (by omega), cp_wJ2, if_neg (by omega), cp_wJ2, if_neg (by omega), cp_wJ2, if_pos ⟨rfl, rfl⟩, cp_wJ2, if_neg (by omega), cp_wJ2, if_neg (by omega)]
  · rw [cp_wJ2, if_neg (by omega), cp_wJ2, if_neg (by omega), cp_wJ2, if_pos ⟨rfl, rfl⟩, cp_wJ2, if_neg (by omega), cp_wJ2, if_neg (by omega), cp_wJ2, if_neg (by omega), cp_wJ2, if_neg (by omega)]
  · rw [cp_wJ2, if_neg (by omega), cp_wJ2, if_pos ⟨rfl, rfl⟩, cp_wJ2, if_neg (by omega), cp_wJ2, if_neg (by omega), cp_wJ2, if_neg (by omega), cp_wJ2, if_neg (by omega), cp_wJ2, if_neg (by omega), cp_wJ2, if_neg (by omega)]
  · rw [cp_wJ2, if_pos ⟨rfl, rfl⟩, cp_wJ2, if_neg (by omega), cp_wJ2, if_neg (by omega), cp_wJ2, if_neg (by omega), cp_wJ2, if_neg (by omega), cp_wJ2, if_neg (by omega), cp_wJ2, if_neg (by omega), cp_wJ2, if_neg (by omega), cp_wJ2, if_neg (by omega)]
  · omega
/-- what two levels have in common is added -/
theorem cp_241m {S : cm_S} {K : cm_K} {l : Nat} {q1 q3 : Int32} (hl : l < 397)
    (k : ∀ S2, cf_W (cW_lv l (l + 1)) S S2 → S2.1 = S.1 → (∀ f g j, cl_sb S l f → cl_sb S (l + 1) g → cl_sb S (l + 2) j → cl_sb S2 l (fun v => f v || (g v && j v))) → K (.inl none) S2 0) :
    cm_At (am_XX L xs) (d + 1) 241 236 [some (.ref 83), some (.int q1), some (.int (Int32.ofNat l)), some (.int q3), some (.int 0)] [] S K := by
  have st : ∀ (w : Nat) (S : cm_S) (K : cm_K), w < 5 → (cm_At (am_XX L xs) (d + 1) 241 236 [some (.ref 83), some (.int q1), some (.int (Int32.ofNat l)), some (.int q3), some (.int (Int32.ofNat (w + 1)))] [] (cm_wJ S 112 (5 * l + w) (S.2 112 (5 * l + w) ||| (S.2 112 (5 * l + 5 + w) &&& S.2 112 (5 * l + 10 + w)))) K) → cm_At (am_XX L xs) (d + 1) 241 236 [some (.ref 83), some (.int q1), some (.int (Int32.ofNat l)), some (.int q3), some (.int (Int32.ofNat w))] [] S K := by
    intro w S K hw k
    refine cx_241_236 _ _ _ _ ⟨fun _ => ?_, fun h => absurd ?_ h⟩
    · have e5 : (5 : Int32) * Int32.ofNat l + 5 + Int32.ofNat w = Int32.ofNat (5 * l + 5 + w) := by rw [show (5 : Int32) = Int32.ofNat 5 from rfl, cp_ml, cp_ad, cp_ad]
      have e10 : (5 : Int32) * Int32.ofNat l + 10 + Int32.ofNat w = Int32.ofNat (5 * l + 10 + w) := by rw [show (5 : Int32) = Int32.ofNat 5 from rfl, show (10 : Int32) = Int32.ofNat 10 from rfl, cp_ml, cp_ad, cp_ad]
      rw [e5, e10, cu_5]
      refine ⟨cp_in (by omega) (by decide), ?_⟩
      rintro _ rfl
      refine ⟨cp_in (by omega) (by decide), ?_⟩
      rintro _ rfl
      refine ⟨cp_in (by omega) (by decide), ?_⟩
      rintro _ rfl
      refine ⟨cp_in (by omega) (by decide), ?_⟩
      rintro _ rfl
      rw [cp_cl (by omega), cp_cl (by omega), cp_cl (by omega), show Int32.ofNat w + 1 = Int32.ofNat (w + 1) from cp_ad (b := 1)]
      exact k
    · rw [show (5 : Int32) = Int32.ofNat 5 from rfl, cp_lt (by omega) (by omega)]; exact hw
  refine st 0 S K (by omega) ?_
  refine st 1 _ K (by omega) ?_
  refine st 2 _ K (by omega) ?_
  refine st 3 _ K (by omega) ?_
  refine st 4 _ K (by omega) ?_
  refine cx_241_236 _ _ _ _ ⟨fun h => absurd h (by decide), fun _ => ?_⟩
  refine k _ (cf_tr (cf_tr (cf_tr (cf_tr (cf_wJ (decide_eq_true (by omega))) (cf_wJ (decide_eq_true (by omega)))) (cf_wJ (decide_eq_true (by omega)))) (cf_wJ (decide_eq_true (by omega)))) (cf_wJ (decide_eq_true (by omega)))) rfl ?_
  intro f g j hf hg hj w b hw hb
  have h2 := hg w b hw hb
  have h3 := hj w b hw hb
  rw [show 5 * (l + 1) + w = 5 * l + 5 + w by omega] at h2
  rw [show 5 * (l + 2) + w = 5 * l + 10 + w by omega] at h3
  show _ = (f (64 * w + b) || (g (64 * w + b) && j (64 * w + b)))
  rw [← hf w b hw hb, ← h2, ← h3, ← cu_b_an, ← cu_b_or]
  refine congrArg (fun x => cu_b x b) ?_
  rcases w with _ | _ | _ | _ | _ | w
  · rw [cp_wJ2, if_neg (by omega), cp_wJ2, if_neg (by omega), cp_wJ2, if_neg (by omega), cp_wJ2, if_neg (by omega), cp_wJ2, if_pos ⟨rfl, rfl⟩]
  · rw [cp_wJ2, if_neg (by omega), cp_wJ2, if_neg (by omega), cp_wJ2, if_neg (by omega), cp_wJ2, if_pos ⟨rfl, rfl⟩, cp_wJ2, if_neg (by omega), cp_wJ2, if_neg (by omega), cp_wJ2, if_neg (by omega)]
  · rw [cp_wJ2, if_neg (by omega), cp_wJ2, if_neg (by omega), cp_wJ2, if_pos ⟨rfl, rfl⟩, cp_wJ2, if_neg (by omega), cp_wJ2, if_neg (by omega), cp_wJ2, if_neg (by omega), cp_wJ2, if_neg (by omega), cp_wJ2, if_neg (by omega), cp_wJ2, if_neg (by omega)]
  · rw [cp_wJ2, if_neg (by omega), cp_wJ2, if_pos ⟨rfl, rfl⟩, cp_wJ2, if_neg (by omega), cp_wJ2, if_neg (by omega), cp_wJ2, if_neg (by omega), cp_wJ2, if_neg (by omega), cp_wJ2, if_neg (by omega), cp_wJ2, if_neg (by omega), cp_wJ2, if_neg (by omega), cp_wJ2, if_neg (by omega), cp_wJ2, if_neg (by omega)]
  · rw [cp_wJ2, if_pos ⟨rfl, rfl⟩, cp_wJ2, if_neg (by omega), cp_wJ2, if_neg (by omega), cp_wJ2, if_neg (by omega), cp_wJ2, if_neg (by omega), cp_wJ2, if_neg (by omega), cp_wJ2, if_neg (by omega), cp_wJ2, if_neg (by omega), cp_wJ2, if_neg (by omega), cp_wJ2, if_neg (by omega), cp_wJ2, if_neg (by omega), cp_wJ2, if_neg (by omega), cp_wJ2, if_neg (by omega)]
  · omega
/-- whether a variable is in the set of a level -/
theorem cp_238 {S : cm_S} {K : cm_K} {l v : Nat} {f : Nat → Bool} (hl : l < 398) (hv : v < 320) (hf : cl_sb S l f)
    (k : K (.inl (some (.int (if f v = true then 1 else 0)))) S 0) :
    cm_At (am_XX L xs) (d + 1) 238 0 [some (.ref 83), some (.int (Int32.ofNat l)), some (.int (Int32.ofNat v))] [] S K := by
  obtain ⟨v1, v2⟩ := cu_dw hv
  have hb := hf (v / 64) (v % 64) (by omega) (by omega)
  rw [show 64 * (v / 64) + v % 64 = v by omega] at hb
  refine cx_238_0 _ _ ⟨by decide, ?_⟩
  rw [v2, v1, cu_5]
  refine ⟨cp_in (by omega) (by decide), ?_⟩
  rintro _ rfl
  rw [cp_cl (by omega)]
  refine ⟨by decide, ?_⟩
  refine ⟨fun h => ⟨Or.inr rfl, ?_⟩, fun h => ⟨Or.inl rfl, ?_⟩⟩
  · rw [cu_b_ts (by omega), hb] at h
    rw [if_pos h] at k
    exact k
  · rw [cu_b_ts (by omega), hb] at h
    rw [if_neg h] at k
    exact k
end CP79
