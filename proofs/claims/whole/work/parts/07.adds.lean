/-! what is owed: the methods that change the tree -/
theorem i_vc_forget {k : Nat} {u : SX} {v : SY} (I : i_Rel k u v) (hk : k + 5 ≤ 2560) (v1 : Int32) : wpX_forget (fun r u' => wpY_forget (fun r' v' => r' = r ∧ i_Rel (k + 5) u' v') v v1) u v1 := by
  have J : i_Rel (k + 5) u v := I
  obtain ⟨N, T, U, B, L, H, W, A, P, E, F, K, rfl, rfl, hT, t⟩ := I
  have h20 := t.1
  obtain ⟨M, rfl⟩ : ∃ M, N = M + 1 := ⟨N - 1, by omega⟩
  unfold wpX_forget wpY_forget wX_forget_15
  dsimp only
  rw [nI_pred M]
  by_cases e : v1 = nI M
  · subst e
    refine br_t rfl ?_
    rcases Nat.eq_zero_or_pos M with e | h1
    · subst e
      exact br_t rfl (br_t (nI_lt (b := 1) (by omega) (by decide)) ⟨rfl, J⟩)
    · refine br_f (nI_ne0 h1 (by omega)) (br_f (by decide) ?_)
      have hY : ¬ nI M < 1 := nI_nlt (b := 1) (by omega) (by omega)
      by_cases e : M = T
      · subst e
        exact br_t rfl (br_f hY (br_t rfl (br_t rfl ⟨rfl, J⟩)))
      · have hz : ¬ nI M = nI T := fun z => e ((cu_neq (by omega) (by omega)).mp z)
        refine br_f hz (nm_e (br_f hY (br_t rfl (br_f hz (nm_e ⟨rfl, ?_⟩)))))
        exact ⟨M, T, U, B, L, H, W, A, P, E, F, K, rfl, rfl, by omega, cu_less t (by omega)⟩
  · refine br_f e (br_c (fun _ => ?_) (fun _ => br_t rfl ?_))
    · exact br_c (fun _ => ⟨rfl, J⟩) (fun _ => br_f e ⟨rfl, J⟩)
    · exact br_c (fun _ => ⟨rfl, J⟩) (fun _ => br_f e ⟨rfl, J⟩)
theorem cu_20 {N : Nat} (h : N = 20) : nI N = 20 := by
  subst h
  rfl
theorem cu_n20 {N : Nat} (h : N < 20) : ¬ nI N = 20 := fun z => by
  have := (nI_eq (a := N) (b := 20) (by omega) (by decide)).mp z
  omega
theorem cu_sp0 {j : Nat} (hj : j < 20) : bt 0 j = !(decide (¬ (-1 : Int32) = nI j) && decide (¬ (-1 : Int32) = nI j)) := by
  rw [b_0, decide_eq_true (cu_m1n j hj)]
  rfl
theorem i_vc_mint {k : Nat} {u : SX} {v : SY} (I : i_Rel k u v) (hk : k + 5 ≤ 2560) (v1 : Int32) (v2 : Int32) (v3 : Int32) : wpX_mint (fun r u' => wpY_mint (fun r' v' => r' = r ∧ i_Rel (k + 5) u' v') v v1 v2 v3) u v1 v2 v3 := by
  have J : i_Rel (k + 5) u v := I
  obtain ⟨N, T, U, B, L, H, W, A, P, E, F, K, rfl, rfl, hT, t⟩ := I
  have h20 := t.1
  unfold wpX_mint wpY_mint
  dsimp only
  by_cases hN : N = 20
  · exact cu_xFull_t hN _ (br_f (by decide) (br_t (cu_20 hN) ⟨rfl, J⟩))
  · have hN : N < 20 := by omega
    have n20 := cu_n20 hN
    refine cu_xFull_f hN _ (br_t rfl ?_)
    rcases cu_cb v1 N with ⟨p, hp, rfl⟩ | h
    · refine cu_xBlk_t h20 hp _ (br_f (by decide) ?_)
      rcases cu_own v2 with h | h
      · refine cu_xOwn_t h.1 h.2.1 _ (br_f (by decide) ?_)
        by_cases a1 : v3 < 1
        · refine br_t a1 (br_f n20 ?_)
          exact cu_yBlk_t h20 hp _ (br_f (by decide) (br_f h.1 (br_f h.2.2.1 (br_t a1 ⟨rfl, J⟩))))
        · by_cases a2 : v3 ≤ 100
          · refine br_f a1 (br_t a2 ?_)
            have ha : ∃ n, v3 = nI n ∧ 1 ≤ n ∧ n ≤ 100 * 2 ^ N := by
              have a0 : ¬ v3 < 0 := fun z => a1 (Int32.lt_trans z (by decide))
              obtain ⟨n, hn, rfl⟩ := nI_of a0
              refine ⟨n, rfl, ?_, ?_⟩
              · rcases Nat.eq_zero_or_pos n with e | e
                · subst e
                  exact absurd (nI_lt (a := 0) (b := 1) (by omega) (by decide)) a1
                · exact e
              · have g := (nI_leI (a := n) (b := 100) hn (by decide)).mp a2
                have g2 : 1 ≤ 2 ^ N := Nat.one_le_two_pow
                omega
            obtain ⟨u', v', R, hX, hY⟩ := cu_both (U := U) (W := W) (K := K) t hN hp hT v2 (a := v3) (s := 0) (e := -1) (f := -1) (fun j hj => cu_sp0 hj) (Or.inl rfl) (Or.inl rfl) ha
            refine hX _ ?_
            refine br_f n20 ?_
            refine cu_yBlk_t h20 hp _ (br_f (by decide) (br_f h.1 (br_f h.2.2.1 (br_f a1 (br_t a2 ?_)))))
            exact hY _ ⟨rfl, R⟩
          · refine br_f a1 (br_f a2 (br_f n20 ?_))
            exact cu_yBlk_t h20 hp _ (br_f (by decide) (br_f h.1 (br_f h.2.2.1 (br_f a1 (br_f a2 ⟨rfl, J⟩)))))
      · refine cu_xOwn_f h _ (br_t rfl (br_f n20 ?_))
        refine cu_yBlk_t h20 hp _ (br_f (by decide) ?_)
        rcases h with h | h
        · exact br_t h ⟨rfl, J⟩
        · exact br_f h.1 (br_t h.2.2.1 ⟨rfl, J⟩)
    · exact cu_xBlk_f h20 h _ (br_t rfl (br_f n20 (cu_yBlk_f h20 h _ (br_t rfl ⟨rfl, J⟩))))
/-- the amount of a block that spends: no more than twice what the last one may have -/
theorem cu_pow {c N a : Nat} (h : c < N) (ha : a ≤ 100 * 2 ^ c) : 2 * a ≤ 100 * 2 ^ N := by
  have e : 2 ^ (c + 1) ≤ 2 ^ N := Nat.pow_le_pow_right (by decide) h
  have e2 : 2 ^ (c + 1) = 2 ^ c * 2 := Nat.pow_succ 2 c
  omega
theorem cu_sp1 {c j : Nat} (hc : c < 20) (hj : j < 20) : bt ((1 : Int32) <<< (nI c &&& 31)) j = !(decide (¬ nI c = nI j) && decide (¬ (-1 : Int32) = nI j)) := by
  rw [cu_shl hc hj, decide_eq_true (cu_m1n j hj), Bool.and_true]
  by_cases e : j = c
  · subst e
    rw [decide_eq_true (rfl : j = j), decide_eq_false (fun z : ¬ nI j = nI j => z rfl)]
    rfl
  · have hz : ¬ nI c = nI j := fun z => e ((cu_neq hc hj).mp z).symm
    rw [decide_eq_false e, decide_eq_true hz]
    rfl
theorem cu_sp2 {c d j : Nat} (hc : c < 20) (hd : d < 20) (hj : j < 20) : bt (((1 : Int32) <<< (nI c &&& 31)) ||| ((1 : Int32) <<< (nI d &&& 31))) j = !(decide (¬ nI c = nI j) && decide (¬ nI d = nI j)) := by
  have h : ∀ c, c < 20 → bt ((1 : Int32) <<< (nI c &&& 31)) j = !decide (¬ nI c = nI j) := fun c hc => by
    rw [cu_sp1 hc hj, decide_eq_true (cu_m1n j hj), Bool.and_true]
  rw [b_or, h c hc, h d hd, Bool.not_and]
theorem i_vc_pay {k : Nat} {u : SX} {v : SY} (I : i_Rel k u v) (hk : k + 5 ≤ 2560) (v1 : Int32) (v2 : Int32) (v3 : Int32) (v4 : Int32) : wpX_pay (fun r u' => wpY_pay (fun r' v' => r' = r ∧ i_Rel (k + 5) u' v') v v1 v2 v3 v4) u v1 v2 v3 v4 := by
  have J : i_Rel (k + 5) u v := I
  obtain ⟨N, T, U, B, L, H, W, A, P, E, F, K, rfl, rfl, hT, t⟩ := I
  have h20 := t.1
  unfold wpX_pay wpY_pay
  dsimp only
  by_cases hN : N = 20
  · exact cu_xFull_t hN _ (br_f (by decide) (br_t (cu_20 hN) ⟨rfl, J⟩))
  · have hN : N < 20 := by omega
    have n20 := cu_n20 hN
    refine cu_xFull_f hN _ (br_t rfl ?_)
    rcases cu_cb v1 N with ⟨p, hp, rfl⟩ | h
    · refine cu_xBlk_t h20 hp _ (br_f (by decide) ?_)
      rcases cu_own v2 with h | h
      · refine cu_xOwn_t h.1 h.2.1 _ (br_f (by decide) ?_)
        refine cu_xCan t hp v3 _ (fun c3 => br_f (by decide) ?_) (fun c3 => br_t rfl ?_)
        · have c3' := c3
          obtain ⟨c, hc1, hc, rfl, hcL⟩ := c3'
          obtain ⟨a, ea, ha1, ha2, ha3⟩ := cu_amt t hc1 hc
          by_cases e4 : v4 = -1
          · subst e4
            refine br_t rfl ⟨cu_vi (by omega), ?_⟩
            rw [cu_cl (j := c) (by omega)]
            obtain ⟨u', v', R, hX, hY⟩ := cu_both (U := U) (W := W) (K := K) t hN hp hT v2 (a := A c) (s := (1 : Int32) <<< (nI c &&& 31)) (e := nI c) (f := -1) (fun j hj => cu_sp1 (by omega) hj) (Or.inr ⟨c, hc, rfl⟩) (Or.inl rfl) ⟨a, ea, ha1, by have := cu_pow hc ha3; omega⟩
            refine hX _ ?_
            refine br_f n20 ?_
            refine cu_yBlk_t h20 hp _ (br_f (by decide) (br_f h.1 (br_t h.2.2.2 (br_f (cu_ne1 c (by omega)) ?_))))
            refine cu_yFree t hp (nI c) _ (fun _ => br_f (by decide) (br_t rfl ?_)) (fun z => absurd c3 z)
            unfold wY_pay_68 wY_pay_90
            rw [cu_cl (j := c) (by omega)]
            refine ⟨cu_vi (by omega), br_f (by decide) (nm_r (Int32.add_zero _) ?_)⟩
            exact hY _ ⟨rfl, R⟩
          · refine br_f e4 ?_
            by_cases e34 : v4 = nI c
            · refine br_t e34 (br_f n20 ?_)
              exact cu_yBlk_t h20 hp _ (br_f (by decide) (br_f h.1 (br_t h.2.2.2 (br_t e34.symm ⟨rfl, J⟩))))
            · have e34' : ¬ nI c = v4 := fun z => e34 z.symm
              refine br_f e34 ?_
              refine cu_xCan t hp v4 _ (fun c4 => br_f (by decide) ?_) (fun c4 => br_t rfl ?_)
              · have c4' := c4
                obtain ⟨d, hd1, hd, rfl, hdL⟩ := c4'
                obtain ⟨b, eb, hb1, hb2, hb3⟩ := cu_amt t hd1 hd
                refine ⟨cu_vi (by omega), cu_vi (by omega), ?_⟩
                rw [cu_cl (j := c) (by omega), cu_cl (j := d) (by omega)]
                refine nm_e (nm_e ?_)
                obtain ⟨u', v', R, hX, hY⟩ := cu_both (U := U) (W := W) (K := K) t hN hp hT v2 (a := A c + A d) (s := ((1 : Int32) <<< (nI c &&& 31)) ||| ((1 : Int32) <<< (nI d &&& 31))) (e := nI c) (f := nI d) (fun j hj => cu_sp2 (by omega) (by omega) hj) (Or.inr ⟨c, hc, rfl⟩) (Or.inr ⟨d, hd, rfl⟩) ⟨a + b, by rw [ea, eb, nI_add], by omega, by have := cu_pow hc ha3; have := cu_pow hd hb3; omega⟩
                refine hX _ ?_
                refine br_f n20 ?_
                refine cu_yBlk_t h20 hp _ (br_f (by decide) (br_f h.1 (br_t h.2.2.2 (br_f e34' ?_))))
                refine cu_yFree t hp (nI c) _ (fun _ => br_f (by decide) (br_f e4 ?_)) (fun z => absurd c3 z)
                refine cu_yFree t hp (nI d) _ (fun _ => br_f (by decide) ?_) (fun z => absurd c4 z)
                unfold wY_pay_68 wY_pay_90
                rw [cu_cl (j := c) (by omega), cu_cl (j := d) (by omega)]
                refine ⟨cu_vi (by omega), br_t (nI_pos' (by omega)) ⟨cu_vi (by omega), nm_e ?_⟩⟩
                exact hY _ ⟨rfl, R⟩
              · refine br_f n20 ?_
                refine cu_yBlk_t h20 hp _ (br_f (by decide) (br_f h.1 (br_t h.2.2.2 (br_f e34' ?_))))
                refine cu_yFree t hp (nI c) _ (fun _ => br_f (by decide) (br_f e4 ?_)) (fun z => absurd c3 z)
                exact cu_yFree t hp v4 _ (fun z => absurd z c4) (fun _ => br_t rfl ⟨rfl, J⟩)
        · refine br_f n20 ?_
          refine cu_yBlk_t h20 hp _ (br_f (by decide) (br_f h.1 (br_t h.2.2.2 (br_c (fun _ => ⟨rfl, J⟩) (fun _ => ?_)))))
          exact cu_yFree t hp v3 _ (fun z => absurd z c3) (fun _ => br_t rfl ⟨rfl, J⟩)
      · refine cu_xOwn_f h _ (br_t rfl (br_f n20 ?_))
        refine cu_yBlk_t h20 hp _ (br_f (by decide) ?_)
        rcases h with h | h
        · exact br_t h ⟨rfl, J⟩
        · exact br_f h.1 (br_f h.2.2.2 ⟨rfl, J⟩)
    · exact cu_xBlk_f h20 h _ (br_t rfl (br_f n20 (cu_yBlk_f h20 h _ (br_t rfl ⟨rfl, J⟩))))
