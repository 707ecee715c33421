/-! what is owed: the relation, and the methods that only ask -/
def i_Rel (k : Nat) (u : SX) (v : SY) : Prop := cu_Rel u v
theorem i_up {k : Nat} {u : SX} {v : SY} (h : i_Rel k u v) : i_Rel (k + 5) u v := h
theorem i_vc0 : wpX_init (fun u => wpY_init (fun v => i_Rel 0 u v)) := by
  unfold wpX_init wpY_init
  refine nm_e (nm_e (nm_e (nm_e ?_)))
  refine ⟨1, 0, 0, upd (fun _ => 0) 0 1, fun _ => 0, fun _ => 0, fun _ => 0, fun _ => 0, upd (fun _ => 0) 0 (-1), upd (fun _ => 0) 0 (-1), upd (fun _ => 0) 0 (-1), fun _ => 0, rfl, rfl, by decide, by decide, ⟨pk_us, rfl, rfl, fun j hj => ?_, fun j hj => b_0 j⟩, fun b h1 hb => by omega⟩
  rw [pk_us]
  exact cu_b1 j (by omega)
theorem i_vc_blocks {k : Nat} {u : SX} {v : SY} (I : i_Rel k u v) (hk : k + 5 ≤ 2560) : wpX_blocks (fun r => wpY_blocks (fun r' => r' = r ∧ i_Rel (k + 5) u v) v) u := by
  have J : i_Rel (k + 5) u v := I
  obtain ⟨N, T, U, B, L, H, W, A, P, E, F, K, rfl, rfl, hT, t⟩ := I
  unfold wpX_blocks wpY_blocks
  dsimp only
  exact ⟨rfl, J⟩
theorem i_vc_tip {k : Nat} {u : SX} {v : SY} (I : i_Rel k u v) (hk : k + 5 ≤ 2560) : wpX_tip (fun r => wpY_tip (fun r' => r' = r ∧ i_Rel (k + 5) u v) v) u := by
  have J : i_Rel (k + 5) u v := I
  obtain ⟨N, T, U, B, L, H, W, A, P, E, F, K, rfl, rfl, hT, t⟩ := I
  unfold wpX_tip wpY_tip
  dsimp only
  exact ⟨rfl, J⟩
theorem i_vc_undone {k : Nat} {u : SX} {v : SY} (I : i_Rel k u v) (hk : k + 5 ≤ 2560) : wpX_undone (fun r => wpY_undone (fun r' => r' = r ∧ i_Rel (k + 5) u v) v) u := by
  have J : i_Rel (k + 5) u v := I
  obtain ⟨N, T, U, B, L, H, W, A, P, E, F, K, rfl, rfl, hT, t⟩ := I
  unfold wpX_undone wpY_undone
  dsimp only
  exact ⟨rfl, J⟩
theorem i_vc_height {k : Nat} {u : SX} {v : SY} (I : i_Rel k u v) (hk : k + 5 ≤ 2560) (v1 : Int32) : wpX_height (fun r => wpY_height (fun r' => r' = r ∧ i_Rel (k + 5) u v) v v1) u v1 := by
  have J : i_Rel (k + 5) u v := I
  obtain ⟨N, T, U, B, L, H, W, A, P, E, F, K, rfl, rfl, hT, t⟩ := I
  have h20 := t.1
  unfold wpX_height wpY_height
  dsimp only
  rcases cu_cb v1 N with ⟨j, hj, rfl⟩ | h
  · refine cu_xBlk_t h20 hj _ (br_f (by decide) ⟨cu_vi (by omega), ?_⟩)
    rw [cu_cl (j := j) (by omega)]
    refine cu_yBlk_t h20 hj _ (br_f (by decide) ?_)
    exact cu_yHgt t hj _ ⟨rfl, J⟩
  · exact cu_xBlk_f h20 h _ (br_t rfl (cu_yBlk_f h20 h _ (br_t rfl ⟨rfl, J⟩)))
theorem i_vc_unspent {k : Nat} {u : SX} {v : SY} (I : i_Rel k u v) (hk : k + 5 ≤ 2560) (v1 : Int32) : wpX_unspent (fun r => wpY_unspent (fun r' => r' = r ∧ i_Rel (k + 5) u v) v v1) u v1 := by
  have J : i_Rel (k + 5) u v := I
  obtain ⟨N, T, U, B, L, H, W, A, P, E, F, K, rfl, rfl, hT, t⟩ := I
  unfold wpX_unspent wpY_unspent
  dsimp only
  refine cu_xCan t hT v1 _ (fun c => ⟨rfl, ?_⟩) (fun c => ⟨rfl, ?_⟩)
  · exact cu_yFree t hT v1 _ (fun _ => ⟨rfl, rfl, J⟩) (fun z => absurd c z)
  · exact cu_yFree t hT v1 _ (fun z => absurd z c) (fun _ => ⟨rfl, rfl, J⟩)
theorem i_vc_amount {k : Nat} {u : SX} {v : SY} (I : i_Rel k u v) (hk : k + 5 ≤ 2560) (v1 : Int32) : wpX_amount (fun r => wpY_amount (fun r' => r' = r ∧ i_Rel (k + 5) u v) v v1) u v1 := by
  have J : i_Rel (k + 5) u v := I
  obtain ⟨N, T, U, B, L, H, W, A, P, E, F, K, rfl, rfl, hT, t⟩ := I
  have h20 := t.1
  unfold wpX_amount wpY_amount
  dsimp only
  rcases cu_cb v1 N with ⟨j, hj, rfl⟩ | h
  · refine cu_xBlk_t h20 hj _ (br_f (by decide) ⟨cu_vi (by omega), ?_⟩)
    rw [cu_cl (j := j) (by omega)]
    rcases Nat.eq_zero_or_pos j with e | h1
    · subst e
      exact br_t (nI_le (b := 0) (Nat.le_refl _) (by decide)) ⟨t.2.1.2.2.1.symm, J⟩
    · exact br_f (nI_nle h1 (by omega)) (cu_yBlk_t h20 hj _ (br_f (by decide) ⟨cu_vi (by omega), rfl, J⟩))
  · refine cu_xBlk_f h20 h _ (br_t rfl ?_)
    exact br_c (fun _ => ⟨rfl, J⟩) (fun _ => cu_yBlk_f h20 h _ (br_t rfl ⟨rfl, J⟩))
theorem i_vc_balance {k : Nat} {u : SX} {v : SY} (I : i_Rel k u v) (hk : k + 5 ≤ 2560) (v1 : Int32) : wpX_balance (fun r => wpY_balance (fun r' => r' = r ∧ i_Rel (k + 5) u v) v v1) u v1 := by
  have J : i_Rel (k + 5) u v := I
  obtain ⟨N, T, U, B, L, H, W, A, P, E, F, K, rfl, rfl, hT, t⟩ := I
  unfold wpX_balance wpY_balance
  dsimp only
  obtain ⟨r, hX, hY⟩ := cu_bal (U := U) (W := W) (K := K) t hT v1 (N - 1) 1 0 (Nat.le_refl _) (by omega)
  exact ⟨_, hX _ ⟨_, hY _ ⟨rfl, J⟩⟩⟩
theorem i_vc_coins {k : Nat} {u : SX} {v : SY} (I : i_Rel k u v) (hk : k + 5 ≤ 2560) : wpX_coins (fun r => wpY_coins (fun r' => r' = r ∧ i_Rel (k + 5) u v) v) u := by
  have J : i_Rel (k + 5) u v := I
  obtain ⟨N, T, U, B, L, H, W, A, P, E, F, K, rfl, rfl, hT, t⟩ := I
  have h20 := t.1
  unfold wpX_coins wpY_coins
  dsimp only
  rw [cu_cl (j := T) (by omega)]
  refine ⟨cu_vi (by omega), cu_size _ _ ?_⟩
  have e : cu_cnt (fun j => bt (L T) j) (N + (20 - N)) = cu_cnt (fun j => bt (L T) j) N := cu_cnt_hi (20 - N) (fun j h1 h2 => cu_lhi t T hT j (by omega) (by omega))
  rw [show N + (20 - N) = 20 by omega] at e
  rw [e]
  have e0 : cu_cnt (fun j => bt (L T) j) 1 = 0 := by
    show 0 + (bt (L T) 0).toNat = 0
    rw [cu_l0 t T hT]
    rfl
  have g := fun post hp => cu_yCoins (U := U) (W := W) (K := K) t hT post hp (N - 1) 1 (Nat.le_refl _) (by omega)
  rw [e0] at g
  exact ⟨_, g _ ⟨rfl, J⟩⟩
theorem i_vc_meeting {k : Nat} {u : SX} {v : SY} (I : i_Rel k u v) (hk : k + 5 ≤ 2560) (v1 : Int32) (v2 : Int32) : wpX_meeting (fun r => wpY_meeting (fun r' => r' = r ∧ i_Rel (k + 5) u v) v v1 v2) u v1 v2 := by
  have J : i_Rel (k + 5) u v := I
  obtain ⟨N, T, U, B, L, H, W, A, P, E, F, K, rfl, rfl, hT, t⟩ := I
  have h20 := t.1
  unfold wpX_meeting wpY_meeting
  dsimp only
  rcases cu_cb v1 N with ⟨a, ha, rfl⟩ | h
  · refine cu_xBlk_t h20 ha _ (br_f (by decide) ?_)
    rcases cu_cb v2 N with ⟨b, hb, rfl⟩ | h
    · refine cu_xBlk_t h20 hb _ (br_f (by decide) ⟨cu_vi (by omega), cu_vi (by omega), ?_⟩)
      rw [cu_cl (j := a) (by omega), cu_cl (j := b) (by omega)]
      refine cu_grt _ _ ?_
      refine cu_yBlk_t h20 ha _ (br_f (by decide) ?_)
      refine cu_yBlk_t h20 hb _ (br_f (by decide) ?_)
      refine cu_yMeet t ha hb _ ⟨congrArg nI ?_, J⟩
      have e1 : (fun j => bt (B a &&& B b) j) = (fun j => bt (B a) j && bt (B b) j) := funext (fun j => b_and _ _ j)
      rw [e1]
      have e : cu_top (fun j => bt (B a) j && bt (B b) j) (N + (20 - N)) = cu_top (fun j => bt (B a) j && bt (B b) j) N := cu_top_hi (20 - N) (fun j h1 h2 => by
        have z : bt (B a) j = false := cu_nt (fun w => by have := cu_bhi t a ha j (by omega) w; omega)
        rw [z, Bool.false_and])
      rw [show N + (20 - N) = 20 by omega] at e
      exact e.symm
    · refine cu_xBlk_f h20 h _ (br_t rfl ?_)
      refine cu_yBlk_t h20 ha _ (br_f (by decide) ?_)
      exact cu_yBlk_f h20 h _ (br_t rfl ⟨rfl, J⟩)
  · exact cu_xBlk_f h20 h _ (br_t rfl (cu_yBlk_f h20 h _ (br_t rfl ⟨rfl, J⟩)))
theorem i_vc_fewestFor {k : Nat} {u : SX} {v : SY} (I : i_Rel k u v) (hk : k + 5 ≤ 2560) (v1 : Int32) (v2 : Int32) : wpX_fewestFor (fun r => wpY_fewestFor (fun r' v' => r' = r ∧ i_Rel (k + 5) u v') v v1 v2) u v1 v2 := by
  have J : i_Rel (k + 5) u v := I
  obtain ⟨N, T, U, B, L, H, W, A, P, E, F, K, rfl, rfl, hT, t⟩ := I
  have h20 := t.1
  unfold wpX_fewestFor wpY_fewestFor
  dsimp only
  rcases cu_own v1 with h | h
  · refine cu_xOwn_t h.1 h.2.1 _ (br_f (by decide) ?_)
    obtain ⟨r, K', hX, hY⟩ := cu_few (U := U) (W := W) t hT v1 v2 20 0 0 (cu_clr K 20) 0 v2.toInt64 (by omega) (fun j hj => by
      rw [b_0, cu_clr0 K 20 j hj]
      exact ⟨fun z => absurd z (by decide), fun z => absurd rfl z⟩) (b_0 0) (by
      rw [show (fun j => bt 0 j) = (fun _ => false) from funext b_0]
      decide) (by omega) (cu_lz v2)
    refine ⟨_, hX _ (br_f h.1 (br_t h.2.2.2 ⟨21, ?_⟩))⟩
    refine cu_yClr (K := K) v1 v2 _ ⟨_, hY _ ⟨rfl, ?_⟩⟩ 20 0 (by omega)
    exact ⟨N, T, U, B, L, H, W, A, P, E, F, K', rfl, rfl, hT, t⟩
  · refine cu_xOwn_f h _ (br_t rfl ?_)
    rcases h with h | h
    · exact br_t h ⟨rfl, J⟩
    · exact br_f h.1 (br_f h.2.2.2 ⟨rfl, J⟩)
