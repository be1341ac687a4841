/-! ## a02 Draft: a tree with a value wherever a variable stands -/
theorem dt_put_sn {v : ct_T} {x : Int32} : ∀ b, ct_wf b → ∀ n, ct_sz (dt_put v x b n).1 + ct_cn x (ct_fl b) = ct_sz b + ct_cn x (ct_fl b) * ct_sz v ∧ (dt_put v x b n).2 = n + ct_cn x (ct_fl b) * dt_nb v :=
  ct_ind (fun n => by
    rw [dt_put_lf]
    refine ⟨?_, ?_⟩
    · show ct_sz .leaf + 0 = ct_sz .leaf + 0 * _
      omega
    · show n = n + 0 * _
      omega) (fun e a b c hw iha ihb ihc n => by
    have hcn := ct_cn_nd (x := x) (e := e) (a := a) (b := b) (c := c)
    rw [dt_put_nd]
    by_cases h2 : e.1 = 2
    · obtain ⟨rfl, rfl, rfl⟩ := ct_leafs hw h2
      have hz : ∀ y, ct_cn y (ct_fl .leaf) = 0 := fun y => rfl
      rw [hz] at hcn
      rw [if_pos h2]
      by_cases hx : e.2.2.1 = x
      · rw [if_pos hx]
        rw [if_pos ⟨h2, hx⟩] at hcn
        have hc1 : ct_cn x (ct_fl (ct_nd e .leaf .leaf .leaf)) = 1 := by omega
        rw [hc1]
        have hs : ct_sz (dt_cp n v) = ct_sz v := ct_map_sz v
        refine ⟨?_, ?_⟩
        · dsimp only
          rw [hs, ct_sz_nd, ct_sz_lf]; omega
        · dsimp only; omega
      · rw [if_neg hx]
        rw [if_neg (fun hc => hx hc.2)] at hcn
        have hc0 : ct_cn x (ct_fl (ct_nd e .leaf .leaf .leaf)) = 0 := by omega
        rw [hc0]
        exact ⟨by dsimp only; omega, by dsimp only; omega⟩
    · rw [if_neg h2]
      rw [if_neg (fun hc => h2 hc.1), Nat.zero_add] at hcn
      rw [hcn, Nat.add_mul, Nat.add_mul, Nat.add_mul, Nat.add_mul, ct_sz_nd, ct_sz_nd]
      obtain ⟨a1, a2⟩ := iha n
      obtain ⟨b1, b2⟩ := ihb (dt_put v x a n).2
      obtain ⟨c1, c2⟩ := ihc (dt_put v x b (dt_put v x a n).2).2
      refine ⟨by omega, ?_⟩
      dsimp only
      rw [c2, b2, a2]; omega)
section CPa02
variable {L : Nat} {xs : Nat → Int32} {d : Nat}
theorem cp_54t {v : ct_T} {x q2 : Int32} {rv n0 en : Nat} (hv : dt_w v) (hvn : ¬ v = .leaf) (hvb : dt_bd n0 v) (hen : en ≤ 8192) {K : cm_K} : ∀ u, ct_wf u → ∀ (r n : Nat) (l : List ct_D) (S : cm_S) (o7 : Option Value), dk_d S l n → ck_t S 44 r u → ck_t S 44 rv v → r + ct_sz u ≤ en → l.length + (ct_sz u + ct_cn x (ct_fl u) * ct_sz v) < 90000 → n0 ≤ n → n + ct_cn x (ct_fl u) * dt_nb v < 1000000000 →
    (∀ S2 o7, dk_d S2 (l ++ ct_fl (dt_put v x u n).1) (dt_put v x u n).2 → cf_W cW_dr S S2 → cm_At (am_XX L xs) (d + 4) 54 10 [some (.ref 50), some (.ref 44), some (.int q2), some (.int x), some (.int (Int32.ofNat rv)), some (.int (Int32.ofNat en)), some (.int (Int32.ofNat (r + ct_sz u))), o7] [] S2 K) →
    cm_At (am_XX L xs) (d + 4) 54 10 [some (.ref 50), some (.ref 44), some (.int q2), some (.int x), some (.int (Int32.ofNat rv)), some (.int (Int32.ofNat en)), some (.int (Int32.ofNat r)), o7] [] S K :=
  ct_ind (fun r n l S o7 h _ _ _ _ _ _ k => by
    have k2 := k S o7 (by rw [dt_put_lf]; show dk_d S (l ++ []) n; rw [List.append_nil]; exact h) cf_rfl
    exact k2) (fun e a b c hw iha ihb ihc r n l S o7 h ht htv hr hl h0 hlt k => by
    have hgr := cp_rw (S := S) (a := 44) (by decide) ht
    have h1 : cp_g (cm_cap 44) (S.1 45) 0 (Int32.ofNat r) = e.1 := congrArg Prod.fst hgr
    have h2 : cp_g (cm_cap 44) (S.1 46) (-1) (Int32.ofNat r) = e.2.2.1 := congrArg (fun x => x.2.2.1) hgr
    have hcn := ct_cn_nd (x := x) (e := e) (a := a) (b := b) (c := c)
    have hsz := ct_sz_nd (e := e) (a := a) (b := b) (c := c)
    have ht2 := ht
    rw [ck_t_nd] at ht2
    obtain ⟨t0, t1, t2, t3, t4, t5⟩ := ht2
    have dis : ∀ {S2 : cm_S} {r : Nat} {t : ct_T}, cf_W cW_dr S S2 → ck_t S 44 r t → ck_t S2 44 r t := fun c2 h => ck_t_cf c2 (fun b j q1 q2 _ _ => decide_eq_false (by omega)) h
    -- the node alone, then its parts
    have plain : ¬ (e.1 = 2 ∧ e.2.2.1 = x) → ∀ (K2 : cm_K), (∀ S2, cm_At (am_XX L xs) (d + 4) 54 10 [some (.ref 50), some (.ref 44), some (.int q2), some (.int x), some (.int (Int32.ofNat rv)), some (.int (Int32.ofNat en)), some (.int (Int32.ofNat r + 1)), o7] [] S2 K → K2 (.inl none) S2 0) → cm_At (am_XX L xs) (d + 3) 51 0 [some (.ref 50), some (.ref 44), some (.int (Int32.ofNat r))] [] S K2 := by
      intro hne K2 hK
      refine cp_51 (by decide) h (by omega) (fun S1 d1 c1 => ?_)
      rw [hgr] at d1
      refine hK S1 ?_
      rw [show Int32.ofNat r + 1 = Int32.ofNat (r + 1) from cp_ad (b := 1)]
      by_cases k2 : e.1 = 2
      · obtain ⟨rfl, rfl, rfl⟩ := ct_leafs hw k2
        have hx : ¬ e.2.2.1 = x := fun hc => hne ⟨k2, hc⟩
        have hput : dt_put v x (ct_nd e .leaf .leaf .leaf) n = (ct_nd e .leaf .leaf .leaf, n) := by rw [dt_put_nd, if_pos k2, if_neg hx]
        rw [hput] at k
        have := k S1 o7 (by exact d1) c1
        rw [hsz, ct_sz_lf] at this
        exact this
      · rw [if_neg (fun hc => k2 hc.1), Nat.zero_add] at hcn
        rw [hcn, Nat.add_mul, Nat.add_mul] at hl hlt
        rw [dt_put_nd, if_neg k2] at k
        have pa := dt_put_sn (v := v) (x := x) a (ct_wf_nd hw).2.2.2.2.1 n
        have pb := dt_put_sn (v := v) (x := x) b (ct_wf_nd hw).2.2.2.2.2.1 (dt_put v x a n).2
        refine iha (r + 1) n (l ++ [e]) S1 o7 d1 (dis c1 t3) (dis c1 htv) (by omega) (by rw [List.length_append, List.length_singleton]; omega) h0 (by omega) (fun S2 o2 d2 c2 => ?_)
        refine ihb (r + 1 + ct_sz a) _ _ S2 o2 d2 (dis (cf_tr c1 c2) t4) (dis (cf_tr c1 c2) htv) (by omega) (by rw [List.length_append, List.length_append, List.length_singleton, ct_fl_len]; omega) (by omega) (by omega) (fun S3 o3 d3 c3 => ?_)
        refine ihc (r + 1 + ct_sz a + ct_sz b) _ _ S3 o3 d3 (dis (cf_tr c1 (cf_tr c2 c3)) t5) (dis (cf_tr c1 (cf_tr c2 c3)) htv) (by omega) (by rw [List.length_append, List.length_append, List.length_append, List.length_singleton, ct_fl_len, ct_fl_len]; omega) (by omega) (by omega) (fun S4 o4 d4 c4 => ?_)
        rw [show r + 1 + ct_sz a + ct_sz b + ct_sz c = r + ct_sz (ct_nd e a b c) by omega]
        refine k S4 o4 ?_ (cf_tr c1 (cf_tr c2 (cf_tr c3 c4)))
        rw [ct_fl_nd]
        rw [show l ++ [e] ++ ct_fl (dt_put v x a n).1 ++ ct_fl (dt_put v x b (dt_put v x a n).2).1 ++ ct_fl (dt_put v x c (dt_put v x b (dt_put v x a n).2).2).1 = l ++ (e :: (ct_fl (dt_put v x a n).1 ++ (ct_fl (dt_put v x b (dt_put v x a n).2).1 ++ ct_fl (dt_put v x c (dt_put v x b (dt_put v x a n).2).2).1))) by simp] at d4
        exact d4
    refine cx_54_10 (by decide) _ _ _ _ _ _ ⟨fun _ => ?_, fun hc => absurd ?_ hc⟩
    · refine cp_8 (by decide) (cp_r1 ?_)
      rw [h1]
      refine ⟨fun k2 => ?_, fun k2 => ?_⟩
      · refine cp_9 (by decide) (cp_r1 ?_)
        rw [h2]
        refine ⟨fun hx => ?_, fun hx => ?_⟩
        · obtain ⟨rfl, rfl, rfl⟩ := ct_leafs hw k2
          have hput : dt_put v x (ct_nd e .leaf .leaf .leaf) n = (dt_cp n v, n + dt_nb v) := by rw [dt_put_nd, if_pos k2, if_pos hx]
          rw [hput] at k
          have hz : ∀ y, ct_cn y (ct_fl .leaf) = 0 := fun y => rfl
          rw [if_pos ⟨k2, hx⟩, hz] at hcn
          have hc1 : ct_cn x (ct_fl (ct_nd e .leaf .leaf .leaf)) = 1 := by omega
          rw [hc1] at hl hlt
          rintro _ rfl
          rw [h.1]
          refine cp_52 (Or.inl rfl) h hv.1 hvn htv (by omega) (fun S1 d1 c1 => cp_r0 ?_)
          refine cp_53 d1 hv (dt_bd_mo h0 hvb) (by omega) (fun S2 d2 c2 => cp_r0 ?_)
          rw [show Int32.ofNat r + 1 = Int32.ofNat (r + 1) from cp_ad (b := 1)]
          have := k S2 (some (.int (Int32.ofNat l.length))) d2 (cf_tr c1 c2)
          rw [hsz, ct_sz_lf] at this
          exact cp_shz (cp_shz (cp_shz (cp_shz this)))
        · exact plain (fun hc => hx hc.2) _ (fun S2 hA => cp_r0 (cp_shz (cp_shz (cp_shz hA))))
      · exact plain (fun hc => k2 hc.1) _ (fun S2 hA => cp_r0 (cp_shz (cp_shz hA)))
    · rw [cp_lt (by omega) (by omega)]; omega)
/-- a tree with a value wherever a variable stands -/
theorem cp_54 {S : cm_S} {K : cm_K} {l : List ct_D} {n rb rv : Nat} {u v : ct_T} {x : Int32} (h : dk_d S l n) (hu : ct_wf u) (hun : ¬ u = .leaf) (hv : dt_w v) (hvn : ¬ v = .leaf) (hvb : dt_bd n v) (ht : ck_t S 44 rb u) (htv : ck_t S 44 rv v) (hl : l.length + (ct_sz u + ct_cn x (ct_fl u) * ct_sz v) < 90000) (hlt : n + ct_cn x (ct_fl u) * dt_nb v < 1000000000)
    (k : ∀ S2, dk_d S2 (l ++ ct_fl (dt_put v x u n).1) (dt_put v x u n).2 → cf_W cW_dr S S2 → K (.inl none) S2 0) :
    cm_At (am_XX L xs) (d + 4) 54 0 [some (.ref 50), some (.ref 44), some (.int (Int32.ofNat rb)), some (.int x), some (.int (Int32.ofNat rv)), none, none, none] [] S K := by
  have hen : rb + ct_sz u ≤ 8192 := ht.2.2
  refine cx_54_0 (by decide) _ _ _ ?_
  refine cp_13t (by decide) ht hu hun (cp_r1 ?_)
  refine cp_shz (cp_54t (n0 := n) hv hvn hvb hen u hu rb n l S none h ht htv (Nat.le_refl _) hl (Nat.le_refl _) hlt (fun S2 o7 d2 c2 => ?_))
  exact cx_54_10 (by decide) _ _ _ _ _ _ ⟨fun hc => absurd hc (by rw [cp_lt (by omega) (by omega)]; omega), fun _ => k S2 d2 c2⟩
end CPa02
