/-! small facts on numbers -/
theorem cu_cl {j : Nat} (h : j < 20) : (nI j).toNatClampNeg = j := nI_clamp (by omega)
theorem cu_vi {j : Nat} (h : j < 20) : vp_in (nI j) 20 := vp_in_nI h (by decide)
theorem cu_cb (x : Int32) (N : Nat) : (∃ j, j < N ∧ x = nI j) ∨ (∀ j, j < N → ¬ x = nI j) := by
  by_cases h : ∃ j, j < N ∧ x = nI j
  · exact Or.inl h
  · exact Or.inr fun j hj e => h ⟨j, hj, e⟩
theorem cu_own (x : Int32) : (¬ x < 0 ∧ ¬ 4 ≤ x ∧ ¬ 3 < x ∧ x ≤ 3) ∨ x < 0 ∨ (¬ x < 0 ∧ 4 ≤ x ∧ 3 < x ∧ ¬ x ≤ 3) := by
  by_cases h : x < 0
  · exact Or.inr (Or.inl h)
  · obtain ⟨j, hj, e⟩ := nI_of h
    by_cases h4 : j < 4
    · refine Or.inl ⟨h, ?_, ?_, ?_⟩
      · rw [e]; exact nI_ge (b := 4) h4 (by decide)
      · rw [e]; exact nI_nlt (a := 3) (by omega) (by decide)
      · rw [e]; exact nI_le (b := 3) (by omega) (by decide)
    · refine Or.inr (Or.inr ⟨h, ?_, ?_, ?_⟩)
      · rw [e]; exact nI_le (a := 4) (by omega) hj
      · rw [e]; exact nI_lt (a := 3) (by omega) hj
      · rw [e]; exact nI_ge (a := 3) (by omega) hj
/-- x names a coin of the ledger of block p -/
def cu_Can (L : Nat → Int32) (N p : Nat) (x : Int32) : Prop := ∃ c, 1 ≤ c ∧ c < N ∧ x = nI c ∧ bt (L p) c = true
/-! static methods -/
theorem cu_size (x : Int32) (post : Int32 → Prop) (hp : post (nI (cu_cnt (fun j => bt x j) 20))) : wpX_sizeOf post x := by
  have h : ∀ d j, j + d = 20 → wX_sizeOf_4 post x (d + 1) (nI (cu_cnt (fun j => bt x j) j)) (nI j) := by
    intro d
    induction d with
    | zero =>
      intro j hj
      have e : j = 20 := by omega
      subst e
      exact br_t (nI_le (a := 20) (b := 20) (Nat.le_refl _) (by decide)) hp
    | succ d ih =>
      intro j hj
      refine br_f (nI_ge (b := 20) (by omega) (by decide)) (nm_r (e' := nI (cu_cnt (fun j => bt x j) (j + 1))) ?_ (nm_r (nI_1 j) (ih (j + 1) (by omega))))
      rw [cu_bit x (by omega), nI_add]
      rfl
  exact ⟨21, h 20 0 rfl⟩
theorem cu_in (x : Int32) {j : Nat} (hj : j < 20) (post : Int32 → Prop) (h1 : bt x j = true → post 1) (h0 : bt x j = false → post 0) : wpX_isIn post x (nI j) := by
  unfold wpX_isIn
  rw [cu_bit x hj]
  by_cases e : bt x j = true
  · rw [e]
    exact br_t (by decide) (h1 e)
  · rw [cu_nt e]
    exact br_f (by decide) (h0 (cu_nt e))
theorem cu_grt (x : Int32) (post : Int32 → Prop) (hp : post (nI (cu_top (fun j => bt x j) 20))) : wpX_greatestIn post x := by
  have h : ∀ d j, j + d = 20 → wX_greatestIn_4 post x (d + 1) (nI (cu_top (fun j => bt x j) j)) (nI j) := by
    intro d
    induction d with
    | zero =>
      intro j hj
      have e : j = 20 := by omega
      subst e
      exact br_t (nI_le (a := 20) (b := 20) (Nat.le_refl _) (by decide)) hp
    | succ d ih =>
      intro j hj
      refine br_f (nI_ge (b := 20) (by omega) (by decide)) ?_
      refine cu_in x (by omega) _ (fun e => ?_) (fun e => ?_)
      · refine br_f (by decide) (nm_r (nI_1 j) ?_)
        have g := ih (j + 1) (by omega)
        rw [cu_top_t (f := fun j => bt x j) e] at g
        exact g
      · refine br_t rfl (nm_r (nI_1 j) ?_)
        have g := ih (j + 1) (by omega)
        rw [cu_top_f (f := fun j => bt x j) (fun z => cu_tf z e)] at g
        exact g
  exact ⟨21, h 20 0 rfl⟩
section
variable {N T : Nat} {U : Int32} {B L H W A P E F K : Nat → Int32}
/-! the component's small methods -/
theorem cu_xFull_f (h : N < 20) (post : Int32 → Prop) (hp : post 0) : wpX_isFull post (nI N, nI T, U, B, L, H, W, A) := br_t (nI_lt (b := 20) h (by decide)) hp
theorem cu_xFull_t (h : N = 20) (post : Int32 → Prop) (hp : post 1) : wpX_isFull post (nI N, nI T, U, B, L, H, W, A) := br_f (nI_nlt (b := 20) (by omega) (by omega)) hp
theorem cu_xBlk_t {j : Nat} (hN : N ≤ 20) (h : j < N) (post : Int32 → Prop) (hp : post 1) : wpX_isBlock post (nI N, nI T, U, B, L, H, W, A) (nI j) := br_f (nI_pos (by omega)) (br_f (nI_ge h (by omega)) hp)
theorem cu_xBlk_f {x : Int32} (hN : N ≤ 20) (h : ∀ j, j < N → ¬ x = nI j) (post : Int32 → Prop) (hp : post 0) : wpX_isBlock post (nI N, nI T, U, B, L, H, W, A) x := by
  by_cases h1 : x < 0
  · exact br_t h1 hp
  · rcases pk_ix x (n := N) (by omega) with h0 | h0 | ⟨j, hj, e⟩
    · exact absurd h0 h1
    · exact br_f h1 (br_t h0 hp)
    · exact absurd e (h j hj)
theorem cu_xOwn_t {x : Int32} (h1 : ¬ x < 0) (h2 : ¬ 4 ≤ x) (post : Int32 → Prop) (hp : post 1) : wpX_isOwner post (nI N, nI T, U, B, L, H, W, A) x := br_f h1 (br_f h2 hp)
theorem cu_xOwn_f {x : Int32} (h : x < 0 ∨ (¬ x < 0 ∧ 4 ≤ x ∧ 3 < x ∧ ¬ x ≤ 3)) (post : Int32 → Prop) (hp : post 0) : wpX_isOwner post (nI N, nI T, U, B, L, H, W, A) x := by
  rcases h with h | h
  · exact br_t h hp
  · exact br_f h.1 (br_t h.2.1 hp)
theorem cu_xCan (t : cu_Tree B L H A P E F N) {p : Nat} (hp : p < N) (x : Int32) (post : Int32 → Prop) (h1 : cu_Can L N p x → post 1) (h0 : ¬ cu_Can L N p x → post 0) : wpX_canSpend post (nI N, nI T, U, B, L, H, W, A) (nI p) x := by
  have h20 := t.1
  unfold wpX_canSpend
  dsimp only
  rcases cu_cb x N with ⟨j, hj, e⟩ | h
  · subst e
    refine cu_xBlk_t h20 hj _ ?_
    refine br_f (by decide) ⟨cu_vi (by omega), ?_⟩
    rw [cu_cl (j := p) (by omega)]
    refine cu_in _ (by omega) _ (fun e => ?_) (fun e => ?_)
    · exact br_f (by decide) (h1 ⟨j, Nat.pos_of_ne_zero (fun z => by subst z; exact cu_tf e (cu_l0 t p hp)), hj, rfl, e⟩)
    · refine br_t rfl (h0 ?_)
      rintro ⟨c, _, hc, ec, g⟩
      have q := (cu_neq (by omega) (by omega)).mp ec
      subst q
      exact cu_tf g e
  · refine cu_xBlk_f h20 h _ ?_
    exact br_t rfl (h0 fun ⟨c, _, hc, e, _⟩ => h c hc e)
/-- owned by o, and in the tip's ledger -/
theorem cu_xOil (hT : T < 20) {c : Nat} (hc : c < 20) (o : Int32) (post : Int32 → Prop) (h1 : W c = o → bt (L T) c = true → post 1) (h0 : ¬ (W c = o ∧ bt (L T) c = true) → post 0) : wpX_isOwnedInLedger post (nI N, nI T, U, B, L, H, W, A) o (nI c) := by
  unfold wpX_isOwnedInLedger
  dsimp only
  rw [cu_cl hc, cu_cl hT]
  refine ⟨cu_vi hc, br_c (fun e => ⟨cu_vi hT, ?_⟩) (fun e => h0 (fun z => e z.1))⟩
  refine cu_in _ hc _ (fun g => ?_) (fun g => ?_)
  · exact br_f (by decide) (h1 e g)
  · exact br_t rfl (h0 (fun z => cu_tf z.2 g))
theorem cu_xFol {M : Int32} (hN : N < 20) (hT : T < 20) (post : SX → Prop)
    (h1 : H T < H N → post (M, nI N, nI (cu_cnt (fun j => bt (B T &&& (B N ^^^ (-1))) j) 20), B, L, H, W, A))
    (h2 : ¬ H T < H N → post (M, nI T, U, B, L, H, W, A)) : wpX_followIfHigher post (M, nI T, U, B, L, H, W, A) (nI N) := by
  unfold wpX_followIfHigher
  dsimp only
  rw [cu_cl hN, cu_cl hT]
  exact ⟨cu_vi hN, cu_vi hT, br_c (fun h => ⟨cu_vi hT, cu_vi hN, nm_e (cu_size _ _ (h1 h))⟩) (fun h => h2 h)⟩
theorem cu_xAdd {p : Nat} (hN : N < 20) (hp : p < N) (hT : T < N) (o a s : Int32) (post : Int32 → SX → Prop)
    {B' L' H' W' A' : Nat → Int32}
    (eB : B' = upd B N (B p ||| ((1 : Int32) <<< (nI N &&& 31))))
    (eL : L' = upd L N ((L p &&& (s ^^^ (-1))) ||| ((1 : Int32) <<< (nI N &&& 31))))
    (eH : H' = upd H N (H p + 1)) (eW : W' = upd W N o) (eA : A' = upd A N a)
    (h1 : H' T < H' N → post (nI N) (nI (N + 1), nI N, nI (cu_cnt (fun j => bt (B' T &&& (B' N ^^^ (-1))) j) 20), B', L', H', W', A'))
    (h2 : ¬ H' T < H' N → post (nI N) (nI (N + 1), nI T, U, B', L', H', W', A')) : wpX_addBlock post (nI N, nI T, U, B, L, H, W, A) (nI p) o a s := by
  subst eB eL eH eW eA
  unfold wpX_addBlock
  dsimp only
  rw [cu_cl hN, cu_cl (j := p) (by omega), nI_1 N]
  have iN := cu_vi hN
  have ip := cu_vi (j := p) (by omega)
  refine nm_e ⟨ip, iN, nm_e ⟨ip, iN, nm_e ⟨ip, iN, nm_e ⟨iN, nm_e ⟨iN, nm_e (nm_e ?_)⟩⟩⟩⟩⟩
  exact cu_xFol hN (by omega) _ h1 h2
/-! the reference's small methods -/
theorem cu_yBlk_t {j : Nat} (hN : N ≤ 20) (h : j < N) (post : Int32 → Prop) (hp : post 1) : wpY_isBlock post (nI N, nI T, U, P, W, A, E, F, K) (nI j) := br_f (nI_pos (by omega)) (br_f (nI_ge h (by omega)) hp)
theorem cu_yBlk_f {x : Int32} (hN : N ≤ 20) (h : ∀ j, j < N → ¬ x = nI j) (post : Int32 → Prop) (hp : post 0) : wpY_isBlock post (nI N, nI T, U, P, W, A, E, F, K) x := by
  by_cases h1 : x < 0
  · exact br_t h1 hp
  · rcases pk_ix x (n := N) (by omega) with h0 | h0 | ⟨j, hj, e⟩
    · exact absurd h0 h1
    · exact br_f h1 (br_t h0 hp)
    · exact absurd e (h j hj)
theorem cu_yHgt (t : cu_Tree B L H A P E F N) {b : Nat} (hb : b < N) (post : Int32 → Prop) (hp : post (H b)) : wpY_heightOf post (nI N, nI T, U, P, W, A, E, F, K) (nI b) := by
  have h20 := t.1
  have h : ∀ b, b < N → ∀ (n k : Nat) (x : Int32), b + 1 ≤ n → k + b < 20 → post (x + H b) → wY_heightOf_7 post (nI N) (nI T) U P W A E F K n x (nI b) (nI k) := by
    intro b
    induction b using Nat.strongRecOn with
    | _ b ih =>
      intro hb n k x hn hk hp
      obtain ⟨m, rfl⟩ : ∃ m, n = m + 1 := ⟨n - 1, by omega⟩
      refine br_f (nI_ge (b := 20) (by omega) (by decide)) ?_
      rcases Nat.eq_zero_or_pos b with e | h1
      · subst e
        rw [t.2.1.2.1, Int32.add_zero] at hp
        exact br_t (nI_le (b := 0) (Nat.le_refl _) (by decide)) hp
      · obtain ⟨p, hpb, eP, eH, _⟩ := cu_par t h1 hb
        refine br_f (nI_nle h1 (by omega)) (nm_e ⟨cu_vi (by omega), ?_⟩)
        rw [cu_cl (j := b) (by omega)]
        refine nm_r eP (nm_r (nI_1 k) (ih p hpb (by omega) m (k + 1) (x + 1) (by omega) (by omega) ?_))
        rw [eH, Int32.add_comm (H p) 1, ← Int32.add_assoc] at hp
        exact hp
  exact ⟨20, h b hb 20 0 0 (by omega) (by omega) (by rw [Int32.zero_add]; exact hp)⟩
theorem cu_yIn (t : cu_Tree B L H A P E F N) {a b : Nat} (ha : a < 20) (hb : b < N) (post : Int32 → Prop) (h1 : bt (B b) a = true → post 1) (h0 : bt (B b) a = false → post 0) : wpY_inBranch post (nI N, nI T, U, P, W, A, E, F, K) (nI a) (nI b) := by
  have h20 := t.1
  have h : ∀ b, b < N → ∀ n k : Nat, b + 2 ≤ n → k + b < 20 → (bt (B b) a = true → post 1) → (bt (B b) a = false → post 0) → wY_inBranch_5 post (nI a) (nI N) (nI T) U P W A E F K n (nI b) (nI k) := by
    intro b
    induction b using Nat.strongRecOn with
    | _ b ih =>
      intro hb n k hn hk h1 h0
      obtain ⟨m, rfl⟩ : ∃ m, n = m + 1 := ⟨n - 1, by omega⟩
      refine br_f (nI_ge (b := 20) (by omega) (by decide)) (br_f (nI_pos (by omega)) ?_)
      by_cases e : b = a
      · subst e
        exact br_t rfl (h1 (cu_bself t hb))
      · refine br_f (fun z => e ((cu_neq (by omega) ha).mp z)) ⟨cu_vi (by omega), ?_⟩
        rw [cu_cl (j := b) (by omega)]
        rcases Nat.eq_zero_or_pos b with e0 | hp
        · subst e0
          obtain ⟨m', rfl⟩ : ∃ m', m = m' + 1 := ⟨m - 1, by omega⟩
          have g : post 0 := h0 (by rw [t.2.1.2.2.2.1 a ha, decide_eq_false (by omega : ¬ a = 0)])
          refine nm_r t.2.1.1 (nm_r (nI_1 k) ?_)
          exact br_c (fun _ => g) (fun _ => br_t (by decide) g)
        · obtain ⟨p, hpb, eP, _, hB⟩ := cu_par t hp hb
          refine nm_r eP (nm_r (nI_1 k) (ih p hpb (by omega) m (k + 1) (by omega) (by omega) (fun z => h1 ?_) (fun z => h0 ?_)))
          · rw [hB a ha, z, Bool.true_or]
          · rw [hB a ha, z, decide_eq_false (by omega : ¬ a = b)]
            rfl
  exact ⟨21, h b hb 21 0 (by omega) (by omega) h1 h0⟩
theorem cu_yMeet (t : cu_Tree B L H A P E F N) {a b : Nat} (ha : a < N) (hb : b < N) (post : Int32 → Prop) (hp : post (nI (cu_top (fun j => bt (B a) j && bt (B b) j) N))) : wpY_meet post (nI N, nI T, U, P, W, A, E, F, K) (nI a) (nI b) := by
  have h20 := t.1
  have h : ∀ d j, j + d = N → wY_meet_5 post (nI a) (nI b) (nI N) (nI T) U P W A E F K (d + 1) (nI (cu_top (fun j => bt (B a) j && bt (B b) j) j)) (nI j) := by
    intro d
    induction d with
    | zero =>
      intro j hj
      have e : j = N := by omega
      subst e
      exact br_t (nI_le (Nat.le_refl _) (by omega)) hp
    | succ d ih =>
      intro j hj
      have g := ih (j + 1) (by omega)
      refine br_f (nI_ge (by omega) (by omega)) ?_
      refine cu_yIn t (by omega) ha _ (fun e => ?_) (fun e => ?_)
      · refine br_f (by decide) ?_
        refine cu_yIn t (by omega) hb _ (fun e2 => ?_) (fun e2 => ?_)
        · refine br_f (by decide) (nm_r (nI_1 j) ?_)
          rw [cu_top_t (f := fun j => bt (B a) j && bt (B b) j) (by rw [e, e2]; rfl)] at g
          exact g
        · refine br_t rfl (nm_r (nI_1 j) ?_)
          rw [cu_top_f (f := fun j => bt (B a) j && bt (B b) j) (by rw [e, e2]; decide)] at g
          exact g
      · refine br_t rfl (nm_r (nI_1 j) ?_)
        rw [cu_top_f (f := fun j => bt (B a) j && bt (B b) j) (by rw [e, Bool.false_and]; decide)] at g
        exact g
  exact ⟨N + 1, h N 0 (by omega)⟩
theorem cu_y54 (t : cu_Tree B L H A P E F N) {b s : Nat} (hb : b < N) (hs : s < N) (x : Int32) (post J : Int32 → Prop) (hJ : bt (B b) s = false → J (nI (s + 1))) (h0 : bt (B b) s = true → post 0) : wY_free_54 post J x (nI b) (nI s) (nI N) (nI T) U P W A E F K := by
  have h20 := t.1
  unfold wY_free_54
  refine cu_yIn t (by omega) hb _ (fun e => ?_) (fun e => ?_)
  · exact br_f (by decide) (h0 e)
  · exact br_t rfl (nm_r (nI_1 s) (hJ e))
theorem cu_yFree (t : cu_Tree B L H A P E F N) {p : Nat} (hp : p < N) (x : Int32) (post : Int32 → Prop) (h1 : cu_Can L N p x → post 1) (h0 : ¬ cu_Can L N p x → post 0) : wpY_free post (nI N, nI T, U, P, W, A, E, F, K) x (nI p) := by
  have h20 := t.1
  unfold wpY_free
  dsimp only
  rcases cu_cb x N with ⟨c, hc, e⟩ | hx
  · subst e
    rcases Nat.eq_zero_or_pos c with e | hc1
    · subst e
      refine br_t (nI_lt (b := 1) (by omega) (by decide)) (h0 ?_)
      rintro ⟨d, hd, hd2, ed, _⟩
      have := (cu_neq (by omega) (by omega)).mp ed
      omega
    · refine br_f (nI_nlt (b := 1) (by omega) (by omega)) (br_f (nI_ge hc (by omega)) ?_)
      have hfr := cu_fr t p hp c hc1 (by omega)
      have k0 : bt (L p) c = false → post 0 := fun e => h0 (by
        rintro ⟨d, hd, hd2, ed, g⟩
        have q := (cu_neq (by omega) (by omega)).mp ed
        subst q
        exact cu_tf g e)
      have k1 : bt (L p) c = true → post 1 := fun e => h1 ⟨c, hc1, hc, rfl, e⟩
      refine cu_yIn t (by omega) hp _ (fun e => ?_) (fun e => ?_)
      · refine br_f (by decide) ⟨N, ?_⟩
        have h : ∀ d s, s + d = N → 1 ≤ s → (∀ s', 1 ≤ s' → s' < s → (E s' = nI c ∨ F s' = nI c) → bt (B p) s' = false) → wY_free_26 post (nI c) (nI p) (nI N) (nI T) U P W A E F K (d + 1) (nI s) := by
          intro d
          induction d with
          | zero =>
            intro s hs hs1 hI
            have es : s = N := by omega
            subst es
            exact br_t (nI_le (Nat.le_refl _) (by omega)) (k1 (hfr.mpr ⟨e, hI⟩))
          | succ d ih =>
            intro s hs hs1 hI
            have bad : (E s = nI c ∨ F s = nI c) → bt (B p) s = true → post 0 := fun q z => k0 (cu_nt (fun w => cu_tf z ((hfr.mp w).2 s hs1 (by omega) q)))
            have nx : ((E s = nI c ∨ F s = nI c) → bt (B p) s = false) → wY_free_26 post (nI c) (nI p) (nI N) (nI T) U P W A E F K (d + 1) (nI (s + 1)) := fun q => ih (s + 1) (by omega) (by omega) (fun s' g1 g2 g3 => by
              by_cases es : s' = s
              · subst es; exact q g3
              · exact hI s' g1 (by omega) g3)
            refine br_f (nI_ge (by omega) (by omega)) ⟨cu_vi (by omega), ?_⟩
            rw [cu_cl (j := s) (by omega)]
            refine br_c (fun q => ?_) (fun q => ⟨cu_vi (by omega), br_c (fun q2 => ?_) (fun q2 => ?_)⟩)
            · exact cu_y54 t hp (by omega) _ post _ (fun z => nx (fun _ => z)) (bad (Or.inl q))
            · exact cu_y54 t hp (by omega) _ post _ (fun z => nx (fun _ => z)) (bad (Or.inr q2))
            · exact nm_r (nI_1 s) (nx (fun z => absurd z (fun w => w.elim q q2)))
        obtain ⟨M, rfl⟩ : ∃ M, N = M + 1 := ⟨N - 1, by omega⟩
        exact h M 1 (by omega) (Nat.le_refl _) (fun s' g1 g2 => by omega)
      · exact br_t rfl (k0 (cu_nt (fun w => cu_tf (hfr.mp w).1 e)))
  · have hn : ¬ cu_Can L N p x := fun ⟨c, _, hc, e, _⟩ => hx c hc e
    by_cases g : x < 1
    · exact br_t g (h0 hn)
    · rcases pk_ix x (n := N) (by omega) with q | q | ⟨j, hj, e⟩
      · exact absurd (Int32.lt_trans q (by decide)) g
      · exact br_f g (br_t q (h0 hn))
      · exact absurd e (hx j hj)
end
