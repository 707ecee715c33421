/-! counts and greatest members of a set of numbers -/
def cu_cnt (f : Nat → Bool) : Nat → Nat
  | 0 => 0
  | n + 1 => cu_cnt f n + (f n).toNat
theorem cu_cnt_congr {f g : Nat → Bool} (n : Nat) : (∀ j, j < n → f j = g j) → cu_cnt f n = cu_cnt g n := by
  induction n with
  | zero => exact fun _ => rfl
  | succ n ih =>
    intro h
    show cu_cnt f n + (f n).toNat = cu_cnt g n + (g n).toNat
    rw [ih (fun j hj => h j (by omega)), h n (by omega)]
theorem cu_cnt_add {f : Nat → Bool} {b : Nat} (hb : f b = false) (n : Nat) : cu_cnt (fun j => f j || decide (j = b)) n = cu_cnt f n + (decide (b < n)).toNat := by
  induction n with
  | zero => rw [decide_eq_false (by omega : ¬ b < 0)]; rfl
  | succ n ih =>
    show cu_cnt (fun j => f j || decide (j = b)) n + (f n || decide (n = b)).toNat = cu_cnt f n + (f n).toNat + (decide (b < n + 1)).toNat
    rw [ih]
    by_cases e : n = b
    · subst e
      rw [hb, decide_eq_true (rfl : n = n), decide_eq_true (by omega : n < n + 1), decide_eq_false (by omega : ¬ n < n)]
      rfl
    · rw [decide_eq_decide.mpr (by omega : b < n + 1 ↔ b < n), decide_eq_false e, Bool.or_false]
      exact Nat.add_right_comm _ _ _
theorem cu_cnt_split (f g : Nat → Bool) (n : Nat) : cu_cnt (fun j => f j && !g j) n + cu_cnt (fun j => f j && g j) n = cu_cnt f n := by
  induction n with
  | zero => rfl
  | succ n ih =>
    show (cu_cnt (fun j => f j && !g j) n + (f n && !g n).toNat) + (cu_cnt (fun j => f j && g j) n + (f n && g n).toNat) = cu_cnt f n + (f n).toNat
    have h : (f n && !g n).toNat + (f n && g n).toNat = (f n).toNat := by cases f n <;> cases g n <;> rfl
    rw [← ih, ← h]
    generalize (f n && !g n).toNat = a
    generalize (f n && g n).toNat = b
    omega
theorem cu_cnt_le (f : Nat → Bool) (n : Nat) : cu_cnt f n ≤ n := by
  induction n with
  | zero => exact Nat.le_refl _
  | succ n ih =>
    show cu_cnt f n + (f n).toNat ≤ n + 1
    have h : (f n).toNat ≤ 1 := by cases f n <;> decide
    omega
theorem cu_cnt_lt {f : Nat → Bool} (h0 : f 0 = false) (n : Nat) : cu_cnt f (n + 1) ≤ n := by
  induction n with
  | zero =>
    show 0 + (f 0).toNat ≤ 0
    rw [h0]
    exact Nat.le_refl _
  | succ n ih =>
    show cu_cnt f (n + 1) + (f (n + 1)).toNat ≤ n + 1
    have h : (f (n + 1)).toNat ≤ 1 := by cases f (n + 1) <;> decide
    omega
/-- the members from 1 on, below n: the count leaves 0 out if 0 isn't in -/
theorem cu_cnt_hi {f : Nat → Bool} {n : Nat} : ∀ d, (∀ j, n ≤ j → j < n + d → f j = false) → cu_cnt f (n + d) = cu_cnt f n := by
  intro d
  induction d with
  | zero => exact fun _ => rfl
  | succ d ih =>
    intro h
    show cu_cnt f (n + d) + (f (n + d)).toNat = cu_cnt f n
    rw [ih (fun j h1 h2 => h j h1 (by omega)), h (n + d) (by omega) (by omega)]
    rfl
def cu_top (f : Nat → Bool) : Nat → Nat
  | 0 => 0
  | n + 1 => if f n = true then n else cu_top f n
theorem cu_top_t {f : Nat → Bool} {n : Nat} (h : f n = true) : cu_top f (n + 1) = n := if_pos h
theorem cu_top_f {f : Nat → Bool} {n : Nat} (h : ¬ f n = true) : cu_top f (n + 1) = cu_top f n := if_neg h
theorem cu_top_le (f : Nat → Bool) (n : Nat) : cu_top f n ≤ n := by
  induction n with
  | zero => exact Nat.le_refl _
  | succ n ih =>
    by_cases h : f n = true
    · rw [cu_top_t h]; omega
    · rw [cu_top_f h]; omega
theorem cu_top_spec {f : Nat → Bool} (h0 : f 0 = true) (n : Nat) : 1 ≤ n → f (cu_top f n) = true ∧ cu_top f n < n ∧ ∀ j, j < n → f j = true → j ≤ cu_top f n := by
  induction n with
  | zero => exact fun h => absurd h (by decide)
  | succ n ih =>
    intro _
    by_cases h : f n = true
    · rw [cu_top_t h]
      exact ⟨h, by omega, fun j hj _ => by omega⟩
    · rw [cu_top_f h]
      have hn : 1 ≤ n := by
        rcases Nat.eq_zero_or_pos n with e | e
        · subst e; exact absurd h0 h
        · exact e
      obtain ⟨h1, h2, h3⟩ := ih hn
      refine ⟨h1, by omega, fun j hj hf => ?_⟩
      by_cases e : j = n
      · subst e; exact absurd hf h
      · exact h3 j (by omega) hf
theorem cu_top_hi {f : Nat → Bool} {n : Nat} : ∀ d, (∀ j, n ≤ j → j < n + d → f j = false) → cu_top f (n + d) = cu_top f n := by
  intro d
  induction d with
  | zero => exact fun _ => rfl
  | succ d ih =>
    intro h
    have hz := h (n + d) (by omega) (by omega)
    have e : cu_top f (n + d + 1) = cu_top f (n + d) := cu_top_f (fun hh => cu_tf hh hz)
    exact e.trans (ih (fun j h1 h2 => h j h1 (by omega)))
/-! the tree of blocks: each block's row against its parent's; sets by their bits below 20 -/
def cu_Node (B L H A P E F : Nat → Int32) (b : Nat) : Prop :=
  ∃ p, p < b ∧ P b = nI p ∧ H b = H p + 1 ∧
    (∀ j, j < 20 → bt (B b) j = (bt (B p) j || decide (j = b))) ∧
    (∀ j, j < 20 → bt (L b) j = ((bt (L p) j && (decide (¬ E b = nI j) && decide (¬ F b = nI j))) || decide (j = b))) ∧
    (E b = -1 ∨ ∃ c, c < b ∧ E b = nI c) ∧ (F b = -1 ∨ ∃ c, c < b ∧ F b = nI c) ∧
    ∃ a, A b = nI a ∧ 1 ≤ a ∧ a ≤ 100 * 2 ^ b
def cu_Zero (B L H A P : Nat → Int32) : Prop :=
  P 0 = -1 ∧ H 0 = 0 ∧ A 0 = 0 ∧ (∀ j, j < 20 → bt (B 0) j = decide (j = 0)) ∧ (∀ j, j < 20 → bt (L 0) j = false)
def cu_Tree (B L H A P E F : Nat → Int32) (N : Nat) : Prop :=
  N ≤ 20 ∧ cu_Zero B L H A P ∧ ∀ b, 1 ≤ b → b < N → cu_Node B L H A P E F b
section
variable {B L H A P E F : Nat → Int32} {N : Nat}
theorem cu_bhi (t : cu_Tree B L H A P E F N) (b : Nat) : b < N → ∀ j, j < 20 → bt (B b) j = true → j ≤ b := by
  obtain ⟨h20, ⟨_, _, _, hB0, _⟩, hN⟩ := t
  induction b using Nat.strongRecOn with
  | _ b ih =>
    intro hb j hj h
    rcases Nat.eq_zero_or_pos b with e | hp
    · subst e
      rw [hB0 j hj] at h
      have := of_decide_eq_true h
      omega
    · obtain ⟨p, hpb, _, _, hB, _⟩ := hN b hp hb
      rw [hB j hj, Bool.or_eq_true] at h
      rcases h with h | h
      · have := ih p hpb (by omega) j hj h
        omega
      · have := of_decide_eq_true h
        omega
theorem cu_bself (t : cu_Tree B L H A P E F N) {b : Nat} (hb : b < N) : bt (B b) b = true := by
  obtain ⟨h20, ⟨_, _, _, hB0, _⟩, hN⟩ := t
  rcases Nat.eq_zero_or_pos b with e | hp
  · subst e
    rw [hB0 0 (by omega)]
    rfl
  · obtain ⟨p, hpb, _, _, hB, _⟩ := hN b hp hb
    rw [hB b (by omega), decide_eq_true (rfl : b = b), Bool.or_true]
theorem cu_b0 (t : cu_Tree B L H A P E F N) (b : Nat) : b < N → bt (B b) 0 = true := by
  obtain ⟨h20, ⟨_, _, _, hB0, _⟩, hN⟩ := t
  induction b using Nat.strongRecOn with
  | _ b ih =>
    intro hb
    rcases Nat.eq_zero_or_pos b with e | hp
    · subst e
      rw [hB0 0 (by omega)]
      rfl
    · obtain ⟨p, hpb, _, _, hB, _⟩ := hN b hp hb
      rw [hB 0 (by omega), ih p hpb (by omega), Bool.true_or]
theorem cu_hc (t : cu_Tree B L H A P E F N) (b : Nat) : b < N → ∃ h, h ≤ b ∧ H b = nI h ∧ cu_cnt (fun j => bt (B b) j) 20 = h + 1 := by
  have hi := cu_bhi t
  obtain ⟨h20, ⟨_, hH0, _, hB0, _⟩, hN⟩ := t
  induction b using Nat.strongRecOn with
  | _ b ih =>
    intro hb
    rcases Nat.eq_zero_or_pos b with e | hp
    · subst e
      refine ⟨0, Nat.le_refl _, hH0.trans nI_0.symm, ?_⟩
      have e1 : cu_cnt (fun j => bt (B 0) j) 20 = cu_cnt (fun j => decide (j = 0)) 20 := cu_cnt_congr 20 hB0
      rw [e1]
      decide
    · obtain ⟨p, hpb, _, hH, hB, _⟩ := hN b hp hb
      obtain ⟨h, hh, eH, ec⟩ := ih p hpb (by omega)
      refine ⟨h + 1, by omega, by rw [hH, eH, nI_1], ?_⟩
      have nb : bt (B p) b = false := cu_nt (fun z => by have := hi p (by omega) b (by omega) z; omega)
      have e1 : cu_cnt (fun j => bt (B b) j) 20 = cu_cnt (fun j => bt (B p) j || decide (j = b)) 20 := cu_cnt_congr 20 hB
      have e2 : cu_cnt (fun j => bt (B p) j || decide (j = b)) 20 = cu_cnt (fun j => bt (B p) j) 20 + (decide (b < 20)).toNat := cu_cnt_add (f := fun j => bt (B p) j) nb 20
      rw [e1, e2, ec, decide_eq_true (by omega : b < 20)]
      rfl
theorem cu_tr (t : cu_Tree B L H A P E F N) (b : Nat) : b < N → ∀ a, a < 20 → bt (B b) a = true → ∀ c, c < 20 → bt (B a) c = true → bt (B b) c = true := by
  obtain ⟨h20, ⟨_, _, _, hB0, _⟩, hN⟩ := t
  induction b using Nat.strongRecOn with
  | _ b ih =>
    intro hb a ha h c hc h2
    rcases Nat.eq_zero_or_pos b with e | hp
    · subst e
      rw [hB0 a ha] at h
      have e := of_decide_eq_true h
      subst e
      exact h2
    · obtain ⟨p, hpb, _, _, hB, _⟩ := hN b hp hb
      rw [hB a ha, Bool.or_eq_true] at h
      rcases h with h | h
      · rw [hB c hc, ih p hpb (by omega) a ha h c hc h2, Bool.true_or]
      · have e := of_decide_eq_true h
        subst e
        exact h2
theorem cu_ch (t : cu_Tree B L H A P E F N) (b : Nat) : b < N → ∀ a, a < 20 → bt (B b) a = true → ∀ c, c ≤ a → bt (B b) c = true → bt (B a) c = true := by
  have hi := cu_bhi t
  obtain ⟨h20, ⟨_, _, _, hB0, _⟩, hN⟩ := t
  induction b using Nat.strongRecOn with
  | _ b ih =>
    intro hb a ha h c hc h2
    rcases Nat.eq_zero_or_pos b with e | hp
    · subst e
      rw [hB0 a ha] at h
      have e := of_decide_eq_true h
      subst e
      exact h2
    · obtain ⟨p, hpb, _, _, hB, _⟩ := hN b hp hb
      by_cases e : a = b
      · subst e
        exact h2
      · rw [hB a ha, decide_eq_false e, Bool.or_false] at h
        have ap := hi p (by omega) a ha h
        rw [hB c (by omega), decide_eq_false (by omega : ¬ c = b), Bool.or_false] at h2
        exact ih p hpb (by omega) a ha h c hc h2
/-- what left: the height of x less that of the greatest common member m -/
theorem cu_und (t : cu_Tree B L H A P E F N) {x y m : Nat} (hx : x < N) (hy : y < N) (h1 : bt (B x) m = true) (h2 : bt (B y) m = true) (hm : m < 20) (hg : ∀ j, j < 20 → bt (B x) j = true → bt (B y) j = true → j ≤ m) :
    nI (cu_cnt (fun j => bt (B x) j && !bt (B y) j) 20) = H x - H m := by
  have hmx := cu_bhi t x hx m hm h1
  obtain ⟨a, ha, eH, ec⟩ := cu_hc t x hx
  obtain ⟨c, hc, eH', ec'⟩ := cu_hc t m (by omega)
  have hs := cu_cnt_split (fun j => bt (B x) j) (fun j => bt (B y) j) 20
  have e1 : cu_cnt (fun j => bt (B x) j && bt (B y) j) 20 = cu_cnt (fun j => bt (B m) j) 20 := by
    apply cu_cnt_congr
    intro j hj
    by_cases hz : bt (B m) j = true
    · rw [hz, cu_tr t x hx m hm h1 j hj hz, cu_tr t y hy m hm h2 j hj hz]
      rfl
    · rw [cu_nt hz]
      apply cu_nt
      intro hw
      rw [Bool.and_eq_true] at hw
      exact hz (cu_ch t x hx m hm h1 j (hg j hj hw.1 hw.2) hw.1)
  rw [e1, ec, ec'] at hs
  rw [eH, eH', pk_sub (by omega)]
  exact congrArg nI (by omega)
theorem cu_sp (t : cu_Tree B L H A P E F N) {s c : Nat} (h1 : 1 ≤ s) (hs : s < N) (hc : c < 20) (h : E s = nI c ∨ F s = nI c) : c < s := by
  obtain ⟨h20, _, hN⟩ := t
  obtain ⟨p, hps, _, _, _, _, hE, hF, _⟩ := hN s h1 hs
  rcases h with h | h
  · rcases hE with e | ⟨d, hd, e⟩
    · exact absurd (e.symm.trans h) (cu_m1n c hc)
    · have := (cu_neq (by omega) hc).mp (e.symm.trans h)
      omega
  · rcases hF with e | ⟨d, hd, e⟩
    · exact absurd (e.symm.trans h) (cu_m1n c hc)
    · have := (cu_neq (by omega) hc).mp (e.symm.trans h)
      omega
theorem cu_l0 (t : cu_Tree B L H A P E F N) (b : Nat) : b < N → bt (L b) 0 = false := by
  obtain ⟨h20, ⟨_, _, _, _, hL0⟩, hN⟩ := t
  induction b using Nat.strongRecOn with
  | _ b ih =>
    intro hb
    rcases Nat.eq_zero_or_pos b with e | hp
    · subst e
      exact hL0 0 (by omega)
    · obtain ⟨p, hpb, _, _, _, hL, _⟩ := hN b hp hb
      rw [hL 0 (by omega), ih p hpb (by omega), Bool.false_and, decide_eq_false (by omega : ¬ 0 = b)]
      rfl
theorem cu_lhi (t : cu_Tree B L H A P E F N) (b : Nat) : b < N → ∀ j, b < j → j < 20 → bt (L b) j = false := by
  obtain ⟨h20, ⟨_, _, _, _, hL0⟩, hN⟩ := t
  induction b using Nat.strongRecOn with
  | _ b ih =>
    intro hb j hj h2
    rcases Nat.eq_zero_or_pos b with e | hp
    · subst e
      exact hL0 j h2
    · obtain ⟨p, hpb, _, _, _, hL, _⟩ := hN b hp hb
      rw [hL j h2, ih p hpb (by omega) j (by omega) h2, Bool.false_and, decide_eq_false (by omega : ¬ j = b)]
      rfl
/-- a coin is in the ledger of b: made by a block of its branch, spent by none -/
theorem cu_fr (t : cu_Tree B L H A P E F N) (b : Nat) : b < N → ∀ c, 1 ≤ c → c < 20 → (bt (L b) c = true ↔ bt (B b) c = true ∧ ∀ s, 1 ≤ s → s < N → (E s = nI c ∨ F s = nI c) → bt (B b) s = false) := by
  have hsp := fun s c => cu_sp t (s := s) (c := c)
  have hi := cu_bhi t
  have hself := fun b => cu_bself t (b := b)
  obtain ⟨h20, ⟨_, _, _, hB0, hL0⟩, hN⟩ := t
  induction b using Nat.strongRecOn with
  | _ b ih =>
    intro hb c h1 hc
    rcases Nat.eq_zero_or_pos b with e | hp
    · subst e
      rw [hL0 c hc, hB0 c hc, decide_eq_false (by omega : ¬ c = 0)]
      exact ⟨fun z => absurd z (by decide), fun z => absurd z.1 (by decide)⟩
    · obtain ⟨p, hpb, _, _, hB, hL, _⟩ := hN b hp hb
      by_cases e : c = b
      · subst e
        constructor
        · intro _
          refine ⟨hself c hb, fun s hs1 hs h => cu_nt fun z => ?_⟩
          have g1 := hsp s c hs1 hs hc h
          have g2 := hi c hb s (by omega) z
          omega
        · intro _
          rw [hL c hc, decide_eq_true (rfl : c = c), Bool.or_true]
      · rw [hL c hc, hB c hc, decide_eq_false e, Bool.or_false, Bool.or_false, Bool.and_eq_true, Bool.and_eq_true, ih p hpb (by omega) c h1 hc]
        constructor
        · rintro ⟨⟨g1, g2⟩, g3, g4⟩
          have g3 := of_decide_eq_true g3
          have g4 := of_decide_eq_true g4
          refine ⟨g1, fun s hs1 hs h => ?_⟩
          have hsb : ¬ s = b := by
            intro z
            subst z
            exact h.elim g3 g4
          rw [hB s (by omega), g2 s hs1 hs h, decide_eq_false hsb]
          rfl
        · rintro ⟨g1, g2⟩
          refine ⟨⟨g1, fun s hs1 hs h => ?_⟩, decide_eq_true ?_, decide_eq_true ?_⟩
          · have z := g2 s hs1 hs h
            rw [hB s (by omega), Bool.or_eq_false_iff] at z
            exact z.1
          · intro z
            exact cu_tf (hself b hb) (g2 b hp hb (Or.inl z))
          · intro z
            exact cu_tf (hself b hb) (g2 b hp hb (Or.inr z))
theorem cu_amt (t : cu_Tree B L H A P E F N) {b : Nat} (h1 : 1 ≤ b) (hb : b < N) : ∃ a, A b = nI a ∧ 1 ≤ a ∧ a ≤ 52428800 ∧ a ≤ 100 * 2 ^ b := by
  obtain ⟨h20, _, hN⟩ := t
  obtain ⟨p, hpb, _, _, _, _, _, _, a, e, g1, g2⟩ := hN b h1 hb
  refine ⟨a, e, g1, ?_, g2⟩
  have : 2 ^ b ≤ 2 ^ 19 := Nat.pow_le_pow_right (by decide) (by omega)
  have e2 : (2 : Nat) ^ 19 = 524288 := by decide
  omega
theorem cu_par (t : cu_Tree B L H A P E F N) {b : Nat} (h1 : 1 ≤ b) (hb : b < N) : ∃ p, p < b ∧ P b = nI p ∧ H b = H p + 1 ∧ (∀ j, j < 20 → bt (B b) j = (bt (B p) j || decide (j = b))) := by
  obtain ⟨h20, _, hN⟩ := t
  obtain ⟨p, hpb, h2, h3, h4, _⟩ := hN b h1 hb
  exact ⟨p, hpb, h2, h3, h4⟩
theorem cu_less (t : cu_Tree B L H A P E F N) {M : Nat} (h : M ≤ N) : cu_Tree B L H A P E F M :=
  ⟨Nat.le_trans h t.1, t.2.1, fun b h1 hb => t.2.2 b h1 (Nat.lt_of_lt_of_le hb h)⟩
theorem cu_add (t : cu_Tree B L H A P E F N) (hN : N < 20) {p : Nat} (hp : p < N) {b l h a e f : Int32}
    (hh : h = H p + 1)
    (hb : ∀ j, j < 20 → bt b j = (bt (B p) j || decide (j = N)))
    (hl : ∀ j, j < 20 → bt l j = ((bt (L p) j && (decide (¬ e = nI j) && decide (¬ f = nI j))) || decide (j = N)))
    (he : e = -1 ∨ ∃ c, c < N ∧ e = nI c) (hf : f = -1 ∨ ∃ c, c < N ∧ f = nI c)
    (ha : ∃ n, a = nI n ∧ 1 ≤ n ∧ n ≤ 100 * 2 ^ N) :
    cu_Tree (upd B N b) (upd L N l) (upd H N h) (upd A N a) (upd P N (nI p)) (upd E N e) (upd F N f) (N + 1) := by
  obtain ⟨_, ⟨z1, z2, z3, z4, z5⟩, hn⟩ := t
  have o : ∀ (g : Nat → Int32) (x : Int32) (j : Nat), j < N → upd g N x j = g j := fun g x j hj => pk_un (by omega)
  have s : ∀ (g : Nat → Int32) (x : Int32), upd g N x N = x := fun g x => pk_us
  refine ⟨by omega, ⟨?_, ?_, ?_, ?_, ?_⟩, ?_⟩
  · rw [o _ _ 0 (by omega)]; exact z1
  · rw [o _ _ 0 (by omega)]; exact z2
  · rw [o _ _ 0 (by omega)]; exact z3
  · rw [o _ _ 0 (by omega)]; exact z4
  · rw [o _ _ 0 (by omega)]; exact z5
  · intro i h1 hi
    by_cases ei : i = N
    · subst ei
      unfold cu_Node
      refine ⟨p, hp, ?_⟩
      rw [s, s, s, s, s, s, s, o _ _ p hp, o _ _ p hp, o _ _ p hp]
      exact ⟨rfl, hh, hb, hl, he, hf, ha⟩
    · obtain ⟨q, hq, g⟩ := hn i h1 (by omega)
      unfold cu_Node
      refine ⟨q, hq, ?_⟩
      rw [o _ _ i (by omega), o _ _ i (by omega), o _ _ i (by omega), o _ _ i (by omega), o _ _ i (by omega), o _ _ i (by omega), o _ _ i (by omega), o _ _ q (by omega), o _ _ q (by omega), o _ _ q (by omega)]
      exact g
end
