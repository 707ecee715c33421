/-! sums, counts and the largest coin: both sides in step -/
section
variable {N T : Nat} {U : Int32} {B L H W A P E F K : Nat → Int32}
theorem cu_canI {p c : Nat} (h1 : 1 ≤ c) (hc : c < N) (hN : N ≤ 20) : cu_Can L N p (nI c) ↔ bt (L p) c = true := by
  constructor
  · rintro ⟨d, hd, hd2, ed, g⟩
    have q := (cu_neq (by omega) (by omega)).mp ed
    subst q
    exact g
  · exact fun g => ⟨c, h1, hc, rfl, g⟩
theorem cu_bal (t : cu_Tree B L H A P E F N) (hT : T < N) (o : Int32) : ∀ (d c : Nat) (s : Int64), 1 ≤ c → c + d = N → ∃ r : Int64, (∀ post : Int64 → Prop, post r → wX_balance_5 post o (nI N) (nI T) U B L H W A (d + 1) s (nI c)) ∧ (∀ post : Int64 → Prop, post r → wY_balance_5 post o (nI N) (nI T) U P W A E F K (d + 1) s (nI c)) := by
  have h20 := t.1
  intro d
  induction d with
  | zero =>
    intro c s h1 hc
    have e : c = N := by omega
    subst e
    have h : nI c ≤ nI c := nI_le (Nat.le_refl _) (by omega)
    exact ⟨s, fun _ hp => br_t h hp, fun _ hp => br_t h hp⟩
  | succ d ih =>
    intro c s h1 hc
    have h : ¬ nI N ≤ nI c := nI_ge (by omega) (by omega)
    have hcan := cu_canI (L := L) (p := T) h1 (by omega : c < N) h20
    by_cases q : W c = o ∧ bt (L T) c = true
    · obtain ⟨r, hX, hY⟩ := ih (c + 1) (s + (A c).toInt64) (by omega) (by omega)
      refine ⟨r, fun post hp => br_f h ?_, fun post hp => br_f h ⟨cu_vi (by omega), ?_⟩⟩
      · refine cu_xOil (by omega) (by omega) o _ (fun _ _ => ?_) (fun z => absurd q z)
        refine br_f (by decide) ⟨cu_vi (by omega), ?_⟩
        rw [cu_cl (j := c) (by omega)]
        exact nm_e (nm_r (nI_1 c) (hX post hp))
      · rw [cu_cl (j := c) (by omega)]
        refine br_t q.1 ?_
        refine cu_yFree t hT (nI c) _ (fun _ => ?_) (fun z => absurd (hcan.mpr q.2) z)
        exact br_f (by decide) ⟨cu_vi (by omega), nm_e (nm_r (nI_1 c) (hY post hp))⟩
    · obtain ⟨r, hX, hY⟩ := ih (c + 1) s (by omega) (by omega)
      refine ⟨r, fun post hp => br_f h ?_, fun post hp => br_f h ⟨cu_vi (by omega), ?_⟩⟩
      · refine cu_xOil (by omega) (by omega) o _ (fun a b => absurd ⟨a, b⟩ q) (fun _ => ?_)
        exact br_t rfl (nm_r (nI_1 c) (hX post hp))
      · rw [cu_cl (j := c) (by omega)]
        refine br_c (fun e => ?_) (fun _ => nm_r (nI_1 c) (hY post hp))
        refine cu_yFree t hT (nI c) _ (fun z => absurd ⟨e, hcan.mp z⟩ q) (fun _ => ?_)
        exact br_t rfl (nm_r (nI_1 c) (hY post hp))
theorem cu_yCoins (t : cu_Tree B L H A P E F N) (hT : T < N) (post : Int32 → Prop) (hp : post (nI (cu_cnt (fun j => bt (L T) j) N))) : ∀ d c : Nat, 1 ≤ c → c + d = N → wY_coins_4 post (nI N) (nI T) U P W A E F K (d + 1) (nI (cu_cnt (fun j => bt (L T) j) c)) (nI c) := by
  have h20 := t.1
  intro d
  induction d with
  | zero =>
    intro c h1 hc
    have e : c = N := by omega
    subst e
    exact br_t (nI_le (Nat.le_refl _) (by omega)) hp
  | succ d ih =>
    intro c h1 hc
    have g := ih (c + 1) (by omega) (by omega)
    have hcan := cu_canI (L := L) (p := T) h1 (by omega : c < N) h20
    have e1 : cu_cnt (fun j => bt (L T) j) (c + 1) = cu_cnt (fun j => bt (L T) j) c + (bt (L T) c).toNat := rfl
    refine br_f (nI_ge (by omega) (by omega)) ?_
    refine cu_yFree t hT (nI c) _ (fun z => ?_) (fun z => ?_)
    · rw [e1, hcan.mp z] at g
      exact br_f (by decide) (nm_r (nI_1 _) (nm_r (nI_1 c) g))
    · rw [e1, cu_nt (fun w => z (hcan.mpr w))] at g
      exact br_t rfl (nm_r (nI_1 c) g)
theorem cu_38_0 {J : Int32 → Int32 → Prop} {post : Int32 → Prop} {x1 x2 x3 : Int32} {c : Nat} (h : J x3 (nI (c + 1))) : wX_largestCoin_38 post J x1 x2 x3 (nI c) 0 (nI N) (nI T) U B L H W A := br_t rfl (nm_r (nI_1 c) h)
theorem cu_38_1 {J : Int32 → Int32 → Prop} {post : Int32 → Prop} {x1 x2 : Int32} {g c : Nat} (hg : g < 20) (hc : c < 20) (h1 : A c ≤ A g → J (nI g) (nI (c + 1))) (h2 : ¬ A c ≤ A g → J (nI c) (nI (c + 1))) : wX_largestCoin_38 post J x1 x2 (nI g) (nI c) 1 (nI N) (nI T) U B L H W A := by
  unfold wX_largestCoin_38
  rw [cu_cl hg, cu_cl hc]
  exact br_f (by decide) ⟨cu_vi hc, cu_vi hg, br_c (fun z => nm_r (nI_1 c) (h1 z)) (fun z => nm_r (nI_1 c) (h2 z))⟩
theorem cu_big (t : cu_Tree B L H A P E F N) (hT : T < N) (o : Int32) {M : Int32} (hK : ∀ j, j < 20 → (bt M j = true ↔ ¬ K j = 0)) :
    ∀ d c g : Nat, 1 ≤ c → c + d = N → g < c → (g = 0 ∨ bt M g = false) → ∃ r : Nat, r < N ∧ (r = 0 ∨ bt M r = false) ∧ (∀ post : Int32 → Prop, post (nI r) → wX_largestCoin_5 post o M (nI N) (nI T) U B L H W A (d + 1) (nI g) (nI c)) ∧ (∀ post : Int32 → Prop, post (nI r) → wY_greatest_4 post o (nI N) (nI T) U P W A E F K (d + 1) (nI g) (nI c)) := by
  have h20 := t.1
  intro d
  induction d with
  | zero =>
    intro c g h1 hc hg hM
    have e : c = N := by omega
    subst e
    have h : nI c ≤ nI c := nI_le (Nat.le_refl _) (by omega)
    exact ⟨g, hg, hM, fun _ hp => br_t h hp, fun _ hp => br_t h hp⟩
  | succ d ih =>
    intro c g h1 hc hg hM
    have h : ¬ nI N ≤ nI c := nI_ge (by omega) (by omega)
    have hcan := cu_canI (L := L) (p := T) h1 (by omega : c < N) h20
    have hKc := hK c (by omega)
    by_cases q : W c = o ∧ bt (L T) c = true ∧ bt M c = false
    · obtain ⟨q1, q2, q3⟩ := q
      have k0 : K c = 0 := Classical.byContradiction (fun z => cu_tf (hKc.mpr z) q3)
      by_cases z : A c ≤ A g
      · have hg0 : ¬ g = 0 := by
          intro e
          subst e
          obtain ⟨a, ea, ha1, ha2, _⟩ := cu_amt t h1 (by omega)
          rw [ea, t.2.1.2.2.1] at z
          exact nI_nle ha1 (by omega) z
        obtain ⟨r, hr, hrM, hX, hY⟩ := ih (c + 1) g (by omega) (by omega) (by omega) hM
        refine ⟨r, hr, hrM, fun post hp => br_f h ?_, fun post hp => br_f h ⟨cu_vi (by omega), ?_⟩⟩
        · refine cu_xOil (by omega) (by omega) o _ (fun _ _ => ?_) (fun w => absurd ⟨q1, q2⟩ w)
          refine br_f (by decide) ?_
          refine cu_in M (by omega) _ (fun w => absurd w (fun w => cu_tf w q3)) (fun _ => ?_)
          exact br_t rfl (cu_38_1 (by omega) (by omega) (fun _ => hX post hp) (fun w => absurd z w))
        · rw [cu_cl (j := c) (by omega), cu_cl (j := g) (by omega)]
          refine br_t k0 ⟨cu_vi (by omega), br_t q1 ?_⟩
          refine cu_yFree t hT (nI c) _ (fun _ => ?_) (fun w => absurd (hcan.mpr q2) w)
          exact br_f (by decide) (br_f (nI_ne0 (by omega) (by omega)) ⟨cu_vi (by omega), cu_vi (by omega), br_t z (nm_r (nI_1 c) (hY post hp))⟩)
      · obtain ⟨r, hr, hrM, hX, hY⟩ := ih (c + 1) c (by omega) (by omega) (by omega) (Or.inr q3)
        refine ⟨r, hr, hrM, fun post hp => br_f h ?_, fun post hp => br_f h ⟨cu_vi (by omega), ?_⟩⟩
        · refine cu_xOil (by omega) (by omega) o _ (fun _ _ => ?_) (fun w => absurd ⟨q1, q2⟩ w)
          refine br_f (by decide) ?_
          refine cu_in M (by omega) _ (fun w => absurd w (fun w => cu_tf w q3)) (fun _ => ?_)
          exact br_t rfl (cu_38_1 (by omega) (by omega) (fun w => absurd w z) (fun _ => hX post hp))
        · rw [cu_cl (j := c) (by omega), cu_cl (j := g) (by omega)]
          refine br_t k0 ⟨cu_vi (by omega), br_t q1 ?_⟩
          refine cu_yFree t hT (nI c) _ (fun _ => ?_) (fun w => absurd (hcan.mpr q2) w)
          exact br_f (by decide) (br_c (fun _ => nm_r (nI_1 c) (hY post hp)) (fun _ => ⟨cu_vi (by omega), cu_vi (by omega), br_f z (nm_r (nI_1 c) (hY post hp))⟩))
    · obtain ⟨r, hr, hrM, hX, hY⟩ := ih (c + 1) g (by omega) (by omega) (by omega) hM
      refine ⟨r, hr, hrM, fun post hp => br_f h ?_, fun post hp => br_f h ⟨cu_vi (by omega), ?_⟩⟩
      · refine cu_xOil (by omega) (by omega) o _ (fun q1 q2 => ?_) (fun _ => ?_)
        · refine br_f (by decide) ?_
          refine cu_in M (by omega) _ (fun _ => ?_) (fun w => absurd ⟨q1, q2, w⟩ q)
          exact br_f (by decide) (cu_38_0 (hX post hp))
        · exact br_t rfl (cu_38_0 (hX post hp))
      · rw [cu_cl (j := c) (by omega)]
        refine br_c (fun k0 => ⟨cu_vi (by omega), br_c (fun q1 => ?_) (fun _ => nm_r (nI_1 c) (hY post hp))⟩) (fun _ => nm_r (nI_1 c) (hY post hp))
        refine cu_yFree t hT (nI c) _ (fun w => absurd ⟨q1, hcan.mp w, cu_nt (fun w => (hKc.mp w) k0)⟩ q) (fun _ => ?_)
        exact br_t rfl (nm_r (nI_1 c) (hY post hp))
theorem cu_vpb1 : vp_nar .boolean 1 = 1 := rfl
theorem cu_vpb0 : vp_nar .boolean 0 = 0 := rfl
theorem cu_few (t : cu_Tree B L H A P E F N) (hT : T < N) (o x : Int32) :
    ∀ (d k : Nat) (M : Int32) (K : Nat → Int32) (s : Nat) (l : Int64), k + d = 20 → (∀ j, j < 20 → (bt M j = true ↔ ¬ K j = 0)) → bt M 0 = false → cu_cnt (fun j => bt M j) 20 = k → s ≤ k * 52428800 → l.toInt = x.toInt - (s : Int) →
      ∃ (r : Int32) (K' : Nat → Int32), (∀ post : Int32 → Prop, post r → wX_fewestFor_18 post o x (nI N) (nI T) U B L H W A (d + 1) M (nI s) (nI k)) ∧ (∀ post : Int32 → SY → Prop, post r (nI N, nI T, U, P, W, A, E, F, K') → wY_fewestFor_38 post o (nI N) (nI T) U (d + 1) l (nI k) P W A E F K) := by
  have h20 := t.1
  intro d
  induction d with
  | zero =>
    intro k M K s l hk hK h0 hc
    have hx : cu_cnt (fun j => bt M j) 20 ≤ 19 := cu_cnt_lt (f := fun j => bt M j) h0 19
    rw [hc] at hx
    omega
  | succ d ih =>
    intro k M K s l hk hK h0 hc hs hl
    have hk20 : ¬ (20 : Int32) ≤ nI k := nI_ge (b := 20) (by omega) (by decide)
    have hs31 : s < 2 ^ 31 := by omega
    have hll := cu_lle x hs31 hl
    by_cases z : nI s < x
    · have hz : ¬ x ≤ nI s := Int32.not_le.mpr z
      have hz2 : 0 < l := Int64.not_le.mp (fun w => hll.mp w z)
      obtain ⟨g, hg, hgM, gX, gY⟩ := cu_big (U := U) (W := W) t hT o hK (N - 1) 1 0 (Nat.le_refl _) (by omega) (by omega) (Or.inl rfl)
      rcases Nat.eq_zero_or_pos g with e | hg1
      · subst e
        exact ⟨-4, K, fun post hp => br_f hk20 (br_f hz ⟨_, gX _ (br_t rfl hp)⟩), fun post hp => br_f hk20 (br_t hz2 ⟨_, gY _ (br_t rfl hp)⟩)⟩
      · have hgM : bt M g = false := hgM.resolve_left (by omega)
        obtain ⟨a, ea, ha1, ha2, _⟩ := cu_amt t hg1 hg
        have hb : ∀ j, j < 20 → bt (M ||| ((1 : Int32) <<< (nI g &&& 31))) j = (bt M j || decide (j = g)) := fun j hj => by rw [b_or, cu_shl (by omega) hj]
        have hcn : cu_cnt (fun j => bt (M ||| ((1 : Int32) <<< (nI g &&& 31))) j) 20 = k + 1 := by
          have e1 : cu_cnt (fun j => bt (M ||| ((1 : Int32) <<< (nI g &&& 31))) j) 20 = cu_cnt (fun j => bt M j || decide (j = g)) 20 := cu_cnt_congr 20 hb
          have e2 : cu_cnt (fun j => bt M j || decide (j = g)) 20 = cu_cnt (fun j => bt M j) 20 + (decide (g < 20)).toNat := cu_cnt_add (f := fun j => bt M j) hgM 20
          rw [e1, e2, hc, decide_eq_true (by omega : g < 20)]
          rfl
        obtain ⟨r, K', hX, hY⟩ := ih (k + 1) (M ||| ((1 : Int32) <<< (nI g &&& 31))) (upd K g 1) (s + a) (l - (nI a).toInt64) (by omega) (fun j hj => by
          rw [hb j hj]
          by_cases e : j = g
          · subst e
            rw [decide_eq_true (rfl : j = j), Bool.or_true, pk_us]
            exact ⟨fun _ => by decide, fun _ => rfl⟩
          · rw [decide_eq_false e, Bool.or_false, pk_un e]
            exact hK j hj) (by rw [hb 0 (by omega), h0, decide_eq_false (by omega : ¬ 0 = g)]; rfl) hcn (by omega) (cu_lsub x hs31 (by omega) hl)
        refine ⟨r, K', fun post hp => br_f hk20 (br_f hz ⟨_, gX _ ?_⟩), fun post hp => br_f hk20 (br_t hz2 ⟨_, gY _ ?_⟩)⟩
        · refine br_f (nI_ne0 hg1 (by omega)) (nm_e ⟨cu_vi (by omega), nm_r ?_ (nm_r (nI_1 k) (hX post hp))⟩)
          rw [cu_cl (j := g) (by omega), ea, nI_add]
        · refine br_f (nI_ne0 hg1 (by omega)) ⟨cu_vi (by omega), nm_r ?_ ⟨cu_vi (by omega), nm_r ?_ (nm_r (nI_1 k) (hY post hp))⟩⟩
          · rw [cu_cl (j := g) (by omega), cu_vpb1]
          · rw [cu_cl (j := g) (by omega), ea]
    · have hz : x ≤ nI s := Int32.not_lt.mp z
      have hz2 : ¬ 0 < l := Int64.not_lt.mpr (hll.mpr z)
      refine ⟨nI k, K, fun post hp => br_f hk20 (br_t hz ?_), fun post hp => br_f hk20 (br_f hz2 hp)⟩
      unfold wX_fewestFor_72
      exact cu_size M _ (by rw [hc]; exact hp)
def cu_clr (K : Nat → Int32) : Nat → Nat → Int32
  | 0 => K
  | j + 1 => upd (cu_clr K j) j 0
theorem cu_clr0 (K : Nat → Int32) (n : Nat) : ∀ j, j < n → cu_clr K n j = 0 := by
  induction n with
  | zero => intro j hj; omega
  | succ n ih =>
    intro j hj
    show upd (cu_clr K n) n 0 j = 0
    by_cases e : j = n
    · subst e; exact pk_us
    · rw [pk_un e]; exact ih j (by omega)
theorem cu_yClr (o x : Int32) (post : Int32 → SY → Prop) (h : ∃ n, wY_fewestFor_38 post o (nI N) (nI T) U n x.toInt64 0 P W A E F (cu_clr K 20)) : ∀ d j : Nat, j + d = 20 → wY_fewestFor_13 post o x (nI N) (nI T) U (d + 1) (nI j) P W A E F (cu_clr K j) := by
  intro d
  induction d with
  | zero =>
    intro j hj
    have e : j = 20 := by omega
    subst e
    exact br_t (nI_le (a := 20) (b := 20) (Nat.le_refl _) (by decide)) h
  | succ d ih =>
    intro j hj
    refine br_f (nI_ge (b := 20) (by omega) (by decide)) ⟨cu_vi (by omega), nm_r ?_ (nm_r (nI_1 j) (ih (j + 1) (by omega)))⟩
    rw [cu_cl (j := j) (by omega), cu_vpb0]
    rfl
end
