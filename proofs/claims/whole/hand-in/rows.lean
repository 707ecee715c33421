section
/-! rows pasted from kit/rows: stores, nI, branches by naturals; Int32 by its bits -/
theorem pk_us {f : Nat → Int32} {k : Nat} {x : Int32} : upd f k x k = x := if_pos rfl
theorem pk_un {f : Nat → Int32} {k j : Nat} {x : Int32} (h : j ≠ k) : upd f k x j = f j := if_neg h
theorem pk_sub {a b : Nat} (h : b ≤ a) : nI a - nI b = nI (a - b) := by
  obtain ⟨c, rfl⟩ : ∃ c, a = c + b := ⟨a - b, by omega⟩
  rw [← nI_add, Int32.add_sub_cancel, Nat.add_sub_cancel]
theorem pk_m1 (n : Nat) : nI (n + 1) + (-1) = nI n := by
  rw [← nI_1, Int32.add_assoc, show (1 : Int32) + (-1) = 0 from rfl, Int32.add_zero]
theorem pk_ix (x : Int32) {n : Nat} (hn : n < 2 ^ 31) : x < 0 ∨ nI n ≤ x ∨ ∃ j : Nat, j < n ∧ x = nI j := by
  by_cases h : x < 0
  · exact Or.inl h
  · obtain ⟨j, hj, rfl⟩ := nI_of h
    by_cases h2 : j < n
    · exact Or.inr (Or.inr ⟨j, h2, rfl⟩)
    · exact Or.inr (Or.inl (nI_le (by omega) hj))
theorem pk_le {x y : Int32} {A B : Prop} (a b : Nat) (f : a ≤ b → A) (g : b < a → B) (hx : x = nI a := by rfl) (hy : y = nI b := by rfl) (ha : a < 2 ^ 31 := by omega) (hb : b < 2 ^ 31 := by omega) : (x ≤ y → A) ∧ (¬ x ≤ y → B) := by
  subst hx hy
  rw [nI_leI ha hb]
  exact ⟨f, fun z => g (by omega)⟩
theorem pk_lt {x y : Int32} {A B : Prop} (a b : Nat) (f : a < b → A) (g : b ≤ a → B) (hx : x = nI a := by rfl) (hy : y = nI b := by rfl) (ha : a < 2 ^ 31 := by omega) (hb : b < 2 ^ 31 := by omega) : (x < y → A) ∧ (¬ x < y → B) := by
  subst hx hy
  rw [nI_ltI ha hb]
  exact ⟨f, fun z => g (by omega)⟩
theorem pk_eq {x y : Int32} {A B : Prop} (a b : Nat) (f : a = b → A) (g : a ≠ b → B) (hx : x = nI a := by rfl) (hy : y = nI b := by rfl) (ha : a < 2 ^ 31 := by omega) (hb : b < 2 ^ 31 := by omega) : (x = y → A) ∧ (¬ x = y → B) := by
  subst hx hy
  rw [nI_eq ha hb]
  exact ⟨f, g⟩
theorem pk_in {x : Int32} (n N : Nat) (h : n < N) (hx : x = nI n := by rfl) (hN : N < 2 ^ 31 := by omega) : vp_in x N := by
  subst hx
  exact vp_in_nI h hN
theorem pk_cl {x : Int32} (n : Nat) (hx : x = nI n := by rfl) (h : n < 2 ^ 31 := by omega) : x.toNatClampNeg = n := by
  subst hx
  exact nI_clamp h
def bt (x : Int32) (i : Nat) : Bool := x.toBitVec.getLsbD i
theorem b_ext {x y : Int32} (h : ∀ i, i < 32 → bt x i = bt y i) : x = y := Int32.toBitVec_inj.mp (BitVec.eq_of_getLsbD_eq (fun i hi => h i hi))
theorem b_or (x y : Int32) (i : Nat) : bt (x ||| y) i = (bt x i || bt y i) := by unfold bt; rw [Int32.toBitVec_or, BitVec.getLsbD_or]
theorem b_and (x y : Int32) (i : Nat) : bt (x &&& y) i = (bt x i && bt y i) := by unfold bt; rw [Int32.toBitVec_and, BitVec.getLsbD_and]
theorem b_xor (x y : Int32) (i : Nat) : bt (x ^^^ y) i = (bt x i ^^ bt y i) := by unfold bt; rw [Int32.toBitVec_xor, BitVec.getLsbD_xor]
theorem b_big {x : Int32} {i : Nat} (h : 32 ≤ i) : bt x i = false := BitVec.getLsbD_of_ge _ _ h
theorem b_m1 : ∀ i, i < 32 → bt (-1) i = true := by decide +kernel
theorem b_0 (i : Nat) : bt 0 i = false := BitVec.getLsbD_zero
theorem s_l : ∀ n, n < 32 → ((nI n &&& 31).toBitVec.smod 32).toNat = n := by decide +kernel
theorem b_shl (n : Nat) (hn : n < 32) (x : Int32) {i : Nat} (hi : i < 32) : bt (x <<< (nI n &&& 31)) i = (decide (n ≤ i) && bt x (i - n)) := by
  unfold bt
  rw [Int32.toBitVec_shiftLeft]
  show (x.toBitVec <<< ((nI n &&& 31).toBitVec.smod 32).toNat).getLsbD i = _
  rw [s_l n hn, BitVec.getLsbD_shiftLeft]
  rcases Nat.lt_or_ge i n with h | h
  · simp [h, Nat.not_le.mpr h]
  · simp [hi, h, Nat.not_lt.mpr h]
theorem b_sshr (n : Nat) (hn : n < 32) (x : Int32) {i : Nat} (hi : i < 32) : bt (x >>> (nI n &&& 31)) i = if n + i < 32 then bt x (n + i) else bt x 31 := by
  unfold bt
  rw [Int32.toBitVec_shiftRight]
  show (x.toBitVec.sshiftRight ((nI n &&& 31).toBitVec.smod 32).toNat).getLsbD i = _
  rw [s_l n hn, BitVec.getLsbD_sshiftRight, BitVec.msb_eq_getLsbD_last]
  simp [hi]
/-! own rows on bits -/
theorem cu_b1 : ∀ i, i < 32 → bt 1 i = decide (i = 0) := by decide +kernel
theorem cu_bit (x : Int32) {n : Nat} (hn : n < 20) : ((x >>> (nI n &&& 31)) &&& 1) = nI (bt x n).toNat := by
  apply b_ext
  intro i hi
  rw [b_and, b_sshr n (by omega) x hi, cu_b1 i hi]
  by_cases e : i = 0
  · subst e
    rw [if_pos (by omega), Nat.add_zero]
    generalize bt x n = z
    cases z <;> decide +kernel
  · rw [decide_eq_false e, Bool.and_false]
    generalize bt x n = z
    cases z
    · exact (b_0 i).symm
    · have h := cu_b1 i hi
      rw [decide_eq_false e] at h
      exact h.symm
theorem cu_shl {n j : Nat} (hn : n < 20) (hj : j < 20) : bt ((1 : Int32) <<< (nI n &&& 31)) j = decide (j = n) := by
  rw [b_shl n (by omega) 1 (by omega), cu_b1 (j - n) (by omega)]
  by_cases e : j = n
  · rw [decide_eq_true e, decide_eq_true (by omega : n ≤ j), decide_eq_true (by omega : j - n = 0)]
    rfl
  · rw [decide_eq_false e]
    by_cases h : n ≤ j
    · rw [decide_eq_false (by omega : ¬ j - n = 0), Bool.and_false]
    · rw [decide_eq_false h, Bool.false_and]
theorem cu_not (x : Int32) {j : Nat} (hj : j < 20) : bt (x ^^^ (-1)) j = !bt x j := by
  rw [b_xor, b_m1 j (by omega)]
  cases bt x j <;> rfl
theorem cu_nt {x : Bool} (h : ¬ x = true) : x = false := by
  cases x
  · rfl
  · exact absurd rfl h
theorem cu_tf {x : Bool} (h : x = true) (g : x = false) : False := by
  rw [h] at g
  exact absurd g (by decide)
theorem cu_ne1 : ∀ c, c < 20 → ¬ nI c = -1 := by decide +kernel
theorem cu_m1n : ∀ c, c < 20 → ¬ (-1 : Int32) = nI c := by decide +kernel
theorem cu_neq {a b : Nat} (ha : a < 20) (hb : b < 20) : nI a = nI b ↔ a = b := nI_eq (by omega) (by omega)
/-! the long that is left, and the sum -/
theorem cu_lle (x : Int32) {s : Nat} (hs : s < 2 ^ 31) {l : Int64} (hl : l.toInt = x.toInt - (s : Int)) : l ≤ 0 ↔ ¬ nI s < x := by
  rw [Int64.le_iff_toInt_le, Int32.lt_iff_toInt_lt, nI_toInt hs, hl, show (0 : Int64).toInt = 0 from by decide]
  omega
theorem cu_lsub (x : Int32) {s a : Nat} (hs : s < 2 ^ 31) (ha : a < 2 ^ 31) {l : Int64} (hl : l.toInt = x.toInt - (s : Int)) : (l - (nI a).toInt64).toInt = x.toInt - ((s + a : Nat) : Int) := by
  rw [Int64.toInt_sub, nI_l ha, lN_toInt ha, hl]
  have h1 := Int32.le_toInt x
  have h2 := Int32.toInt_lt x
  generalize x.toInt = z at h1 h2 ⊢
  rw [Int.bmod_eq_of_le (by omega) (by omega)]
  omega
theorem cu_lz (x : Int32) : x.toInt64.toInt = x.toInt - ((0 : Nat) : Int) := by
  rw [Int32.toInt_toInt64]
  omega
end
section
/-! counts and greatest members of a set of numbers -/
def cu_cnt (f : Nat → Bool) : Nat → Nat
  | 0 => 0
  | n + 1 => cu_cnt f n + (f n).toNat
theorem cu_cnt_congr {f g : Nat → Bool} (n : Nat) : (∀ j, j < n → f j = g j) → cu_cnt f n = cu_cnt g n := by
  induction n with
  | zero => exact fun _ => rfl
  | succ n ih =>
    intro h
    show cu_cnt f n + (f n).toNat = cu_cnt g n + (g n).toNat
    rw [ih (fun j hj => h j (by omega)), h n (by omega)]
theorem cu_cnt_add {f : Nat → Bool} {b : Nat} (hb : f b = false) (n : Nat) : cu_cnt (fun j => f j || decide (j = b)) n = cu_cnt f n + (decide (b < n)).toNat := by
  induction n with
  | zero => rw [decide_eq_false (by omega : ¬ b < 0)]; rfl
  | succ n ih =>
    show cu_cnt (fun j => f j || decide (j = b)) n + (f n || decide (n = b)).toNat = cu_cnt f n + (f n).toNat + (decide (b < n + 1)).toNat
    rw [ih]
    by_cases e : n = b
    · subst e
      rw [hb, decide_eq_true (rfl : n = n), decide_eq_true (by omega : n < n + 1), decide_eq_false (by omega : ¬ n < n)]
      rfl
    · rw [decide_eq_decide.mpr (by omega : b < n + 1 ↔ b < n), decide_eq_false e, Bool.or_false]
      exact Nat.add_right_comm _ _ _
theorem cu_cnt_split (f g : Nat → Bool) (n : Nat) : cu_cnt (fun j => f j && !g j) n + cu_cnt (fun j => f j && g j) n = cu_cnt f n := by
  induction n with
  | zero => rfl
  | succ n ih =>
    show (cu_cnt (fun j => f j && !g j) n + (f n && !g n).toNat) + (cu_cnt (fun j => f j && g j) n + (f n && g n).toNat) = cu_cnt f n + (f n).toNat
    have h : (f n && !g n).toNat + (f n && g n).toNat = (f n).toNat := by cases f n <;> cases g n <;> rfl
    rw [← ih, ← h]
    generalize (f n && !g n).toNat = a
    generalize (f n && g n).toNat = b
    omega
theorem cu_cnt_le (f : Nat → Bool) (n : Nat) : cu_cnt f n ≤ n := by
  induction n with
  | zero => exact Nat.le_refl _
  | succ n ih =>
    show cu_cnt f n + (f n).toNat ≤ n + 1
    have h : (f n).toNat ≤ 1 := by cases f n <;> decide
    omega
theorem cu_cnt_lt {f : Nat → Bool} (h0 : f 0 = false) (n : Nat) : cu_cnt f (n + 1) ≤ n := by
  induction n with
  | zero =>
    show 0 + (f 0).toNat ≤ 0
    rw [h0]
    exact Nat.le_refl _
  | succ n ih =>
    show cu_cnt f (n + 1) + (f (n + 1)).toNat ≤ n + 1
    have h : (f (n + 1)).toNat ≤ 1 := by cases f (n + 1) <;> decide
    omega
/-- the members from 1 on, below n: the count leaves 0 out if 0 isn't in -/
theorem cu_cnt_hi {f : Nat → Bool} {n : Nat} : ∀ d, (∀ j, n ≤ j → j < n + d → f j = false) → cu_cnt f (n + d) = cu_cnt f n := by
  intro d
  induction d with
  | zero => exact fun _ => rfl
  | succ d ih =>
    intro h
    show cu_cnt f (n + d) + (f (n + d)).toNat = cu_cnt f n
    rw [ih (fun j h1 h2 => h j h1 (by omega)), h (n + d) (by omega) (by omega)]
    rfl
def cu_top (f : Nat → Bool) : Nat → Nat
  | 0 => 0
  | n + 1 => if f n = true then n else cu_top f n
theorem cu_top_t {f : Nat → Bool} {n : Nat} (h : f n = true) : cu_top f (n + 1) = n := if_pos h
theorem cu_top_f {f : Nat → Bool} {n : Nat} (h : ¬ f n = true) : cu_top f (n + 1) = cu_top f n := if_neg h
theorem cu_top_le (f : Nat → Bool) (n : Nat) : cu_top f n ≤ n := by
  induction n with
  | zero => exact Nat.le_refl _
  | succ n ih =>
    by_cases h : f n = true
    · rw [cu_top_t h]; omega
    · rw [cu_top_f h]; omega
theorem cu_top_spec {f : Nat → Bool} (h0 : f 0 = true) (n : Nat) : 1 ≤ n → f (cu_top f n) = true ∧ cu_top f n < n ∧ ∀ j, j < n → f j = true → j ≤ cu_top f n := by
  induction n with
  | zero => exact fun h => absurd h (by decide)
  | succ n ih =>
    intro _
    by_cases h : f n = true
    · rw [cu_top_t h]
      exact ⟨h, by omega, fun j hj _ => by omega⟩
    · rw [cu_top_f h]
      have hn : 1 ≤ n := by
        rcases Nat.eq_zero_or_pos n with e | e
        · subst e; exact absurd h0 h
        · exact e
      obtain ⟨h1, h2, h3⟩ := ih hn
      refine ⟨h1, by omega, fun j hj hf => ?_⟩
      by_cases e : j = n
      · subst e; exact absurd hf h
      · exact h3 j (by omega) hf
theorem cu_top_hi {f : Nat → Bool} {n : Nat} : ∀ d, (∀ j, n ≤ j → j < n + d → f j = false) → cu_top f (n + d) = cu_top f n := by
  intro d
  induction d with
  | zero => exact fun _ => rfl
  | succ d ih =>
    intro h
    have hz := h (n + d) (by omega) (by omega)
    have e : cu_top f (n + d + 1) = cu_top f (n + d) := cu_top_f (fun hh => cu_tf hh hz)
    exact e.trans (ih (fun j h1 h2 => h j h1 (by omega)))
/-! the tree of blocks: each block's row against its parent's; sets by their bits below 20 -/
def cu_Node (B L H A P E F : Nat → Int32) (b : Nat) : Prop :=
  ∃ p, p < b ∧ P b = nI p ∧ H b = H p + 1 ∧
    (∀ j, j < 20 → bt (B b) j = (bt (B p) j || decide (j = b))) ∧
    (∀ j, j < 20 → bt (L b) j = ((bt (L p) j && (decide (¬ E b = nI j) && decide (¬ F b = nI j))) || decide (j = b))) ∧
    (E b = -1 ∨ ∃ c, c < b ∧ E b = nI c) ∧ (F b = -1 ∨ ∃ c, c < b ∧ F b = nI c) ∧
    ∃ a, A b = nI a ∧ 1 ≤ a ∧ a ≤ 100 * 2 ^ b
def cu_Zero (B L H A P : Nat → Int32) : Prop :=
  P 0 = -1 ∧ H 0 = 0 ∧ A 0 = 0 ∧ (∀ j, j < 20 → bt (B 0) j = decide (j = 0)) ∧ (∀ j, j < 20 → bt (L 0) j = false)
def cu_Tree (B L H A P E F : Nat → Int32) (N : Nat) : Prop :=
  N ≤ 20 ∧ cu_Zero B L H A P ∧ ∀ b, 1 ≤ b → b < N → cu_Node B L H A P E F b
section
variable {B L H A P E F : Nat → Int32} {N : Nat}
theorem cu_bhi (t : cu_Tree B L H A P E F N) (b : Nat) : b < N → ∀ j, j < 20 → bt (B b) j = true → j ≤ b := by
  obtain ⟨h20, ⟨_, _, _, hB0, _⟩, hN⟩ := t
  induction b using Nat.strongRecOn with
  | _ b ih =>
    intro hb j hj h
    rcases Nat.eq_zero_or_pos b with e | hp
    · subst e
      rw [hB0 j hj] at h
      have := of_decide_eq_true h
      omega
    · obtain ⟨p, hpb, _, _, hB, _⟩ := hN b hp hb
      rw [hB j hj, Bool.or_eq_true] at h
      rcases h with h | h
      · have := ih p hpb (by omega) j hj h
        omega
      · have := of_decide_eq_true h
        omega
theorem cu_bself (t : cu_Tree B L H A P E F N) {b : Nat} (hb : b < N) : bt (B b) b = true := by
  obtain ⟨h20, ⟨_, _, _, hB0, _⟩, hN⟩ := t
  rcases Nat.eq_zero_or_pos b with e | hp
  · subst e
    rw [hB0 0 (by omega)]
    rfl
  · obtain ⟨p, hpb, _, _, hB, _⟩ := hN b hp hb
    rw [hB b (by omega), decide_eq_true (rfl : b = b), Bool.or_true]
theorem cu_b0 (t : cu_Tree B L H A P E F N) (b : Nat) : b < N → bt (B b) 0 = true := by
  obtain ⟨h20, ⟨_, _, _, hB0, _⟩, hN⟩ := t
  induction b using Nat.strongRecOn with
  | _ b ih =>
    intro hb
    rcases Nat.eq_zero_or_pos b with e | hp
    · subst e
      rw [hB0 0 (by omega)]
      rfl
    · obtain ⟨p, hpb, _, _, hB, _⟩ := hN b hp hb
      rw [hB 0 (by omega), ih p hpb (by omega), Bool.true_or]
theorem cu_hc (t : cu_Tree B L H A P E F N) (b : Nat) : b < N → ∃ h, h ≤ b ∧ H b = nI h ∧ cu_cnt (fun j => bt (B b) j) 20 = h + 1 := by
  have hi := cu_bhi t
  obtain ⟨h20, ⟨_, hH0, _, hB0, _⟩, hN⟩ := t
  induction b using Nat.strongRecOn with
  | _ b ih =>
    intro hb
    rcases Nat.eq_zero_or_pos b with e | hp
    · subst e
      refine ⟨0, Nat.le_refl _, hH0.trans nI_0.symm, ?_⟩
      have e1 : cu_cnt (fun j => bt (B 0) j) 20 = cu_cnt (fun j => decide (j = 0)) 20 := cu_cnt_congr 20 hB0
      rw [e1]
      decide
    · obtain ⟨p, hpb, _, hH, hB, _⟩ := hN b hp hb
      obtain ⟨h, hh, eH, ec⟩ := ih p hpb (by omega)
      refine ⟨h + 1, by omega, by rw [hH, eH, nI_1], ?_⟩
      have nb : bt (B p) b = false := cu_nt (fun z => by have := hi p (by omega) b (by omega) z; omega)
      have e1 : cu_cnt (fun j => bt (B b) j) 20 = cu_cnt (fun j => bt (B p) j || decide (j = b)) 20 := cu_cnt_congr 20 hB
      have e2 : cu_cnt (fun j => bt (B p) j || decide (j = b)) 20 = cu_cnt (fun j => bt (B p) j) 20 + (decide (b < 20)).toNat := cu_cnt_add (f := fun j => bt (B p) j) nb 20
      rw [e1, e2, ec, decide_eq_true (by omega : b < 20)]
      rfl
theorem cu_tr (t : cu_Tree B L H A P E F N) (b : Nat) : b < N → ∀ a, a < 20 → bt (B b) a = true → ∀ c, c < 20 → bt (B a) c = true → bt (B b) c = true := by
  obtain ⟨h20, ⟨_, _, _, hB0, _⟩, hN⟩ := t
  induction b using Nat.strongRecOn with
  | _ b ih =>
    intro hb a ha h c hc h2
    rcases Nat.eq_zero_or_pos b with e | hp
    · subst e
      rw [hB0 a ha] at h
      have e := of_decide_eq_true h
      subst e
      exact h2
    · obtain ⟨p, hpb, _, _, hB, _⟩ := hN b hp hb
      rw [hB a ha, Bool.or_eq_true] at h
      rcases h with h | h
      · rw [hB c hc, ih p hpb (by omega) a ha h c hc h2, Bool.true_or]
      · have e := of_decide_eq_true h
        subst e
        exact h2
theorem cu_ch (t : cu_Tree B L H A P E F N) (b : Nat) : b < N → ∀ a, a < 20 → bt (B b) a = true → ∀ c, c ≤ a → bt (B b) c = true → bt (B a) c = true := by
  have hi := cu_bhi t
  obtain ⟨h20, ⟨_, _, _, hB0, _⟩, hN⟩ := t
  induction b using Nat.strongRecOn with
  | _ b ih =>
    intro hb a ha h c hc h2
    rcases Nat.eq_zero_or_pos b with e | hp
    · subst e
      rw [hB0 a ha] at h
      have e := of_decide_eq_true h
      subst e
      exact h2
    · obtain ⟨p, hpb, _, _, hB, _⟩ := hN b hp hb
      by_cases e : a = b
      · subst e
        exact h2
      · rw [hB a ha, decide_eq_false e, Bool.or_false] at h
        have ap := hi p (by omega) a ha h
        rw [hB c (by omega), decide_eq_false (by omega : ¬ c = b), Bool.or_false] at h2
        exact ih p hpb (by omega) a ha h c hc h2
/-- what left: the height of x less that of the greatest common member m -/
theorem cu_und (t : cu_Tree B L H A P E F N) {x y m : Nat} (hx : x < N) (hy : y < N) (h1 : bt (B x) m = true) (h2 : bt (B y) m = true) (hm : m < 20) (hg : ∀ j, j < 20 → bt (B x) j = true → bt (B y) j = true → j ≤ m) :
    nI (cu_cnt (fun j => bt (B x) j && !bt (B y) j) 20) = H x - H m := by
  have hmx := cu_bhi t x hx m hm h1
  obtain ⟨a, ha, eH, ec⟩ := cu_hc t x hx
  obtain ⟨c, hc, eH', ec'⟩ := cu_hc t m (by omega)
  have hs := cu_cnt_split (fun j => bt (B x) j) (fun j => bt (B y) j) 20
  have e1 : cu_cnt (fun j => bt (B x) j && bt (B y) j) 20 = cu_cnt (fun j => bt (B m) j) 20 := by
    apply cu_cnt_congr
    intro j hj
    by_cases hz : bt (B m) j = true
    · rw [hz, cu_tr t x hx m hm h1 j hj hz, cu_tr t y hy m hm h2 j hj hz]
      rfl
    · rw [cu_nt hz]
      apply cu_nt
      intro hw
      rw [Bool.and_eq_true] at hw
      exact hz (cu_ch t x hx m hm h1 j (hg j hj hw.1 hw.2) hw.1)
  rw [e1, ec, ec'] at hs
  rw [eH, eH', pk_sub (by omega)]
  exact congrArg nI (by omega)
theorem cu_sp (t : cu_Tree B L H A P E F N) {s c : Nat} (h1 : 1 ≤ s) (hs : s < N) (hc : c < 20) (h : E s = nI c ∨ F s = nI c) : c < s := by
  obtain ⟨h20, _, hN⟩ := t
  obtain ⟨p, hps, _, _, _, _, hE, hF, _⟩ := hN s h1 hs
  rcases h with h | h
  · rcases hE with e | ⟨d, hd, e⟩
    · exact absurd (e.symm.trans h) (cu_m1n c hc)
    · have := (cu_neq (by omega) hc).mp (e.symm.trans h)
      omega
  · rcases hF with e | ⟨d, hd, e⟩
    · exact absurd (e.symm.trans h) (cu_m1n c hc)
    · have := (cu_neq (by omega) hc).mp (e.symm.trans h)
      omega
theorem cu_l0 (t : cu_Tree B L H A P E F N) (b : Nat) : b < N → bt (L b) 0 = false := by
  obtain ⟨h20, ⟨_, _, _, _, hL0⟩, hN⟩ := t
  induction b using Nat.strongRecOn with
  | _ b ih =>
    intro hb
    rcases Nat.eq_zero_or_pos b with e | hp
    · subst e
      exact hL0 0 (by omega)
    · obtain ⟨p, hpb, _, _, _, hL, _⟩ := hN b hp hb
      rw [hL 0 (by omega), ih p hpb (by omega), Bool.false_and, decide_eq_false (by omega : ¬ 0 = b)]
      rfl
theorem cu_lhi (t : cu_Tree B L H A P E F N) (b : Nat) : b < N → ∀ j, b < j → j < 20 → bt (L b) j = false := by
  obtain ⟨h20, ⟨_, _, _, _, hL0⟩, hN⟩ := t
  induction b using Nat.strongRecOn with
  | _ b ih =>
    intro hb j hj h2
    rcases Nat.eq_zero_or_pos b with e | hp
    · subst e
      exact hL0 j h2
    · obtain ⟨p, hpb, _, _, _, hL, _⟩ := hN b hp hb
      rw [hL j h2, ih p hpb (by omega) j (by omega) h2, Bool.false_and, decide_eq_false (by omega : ¬ j = b)]
      rfl
/-- a coin is in the ledger of b: made by a block of its branch, spent by none -/
theorem cu_fr (t : cu_Tree B L H A P E F N) (b : Nat) : b < N → ∀ c, 1 ≤ c → c < 20 → (bt (L b) c = true ↔ bt (B b) c = true ∧ ∀ s, 1 ≤ s → s < N → (E s = nI c ∨ F s = nI c) → bt (B b) s = false) := by
  have hsp := fun s c => cu_sp t (s := s) (c := c)
  have hi := cu_bhi t
  have hself := fun b => cu_bself t (b := b)
  obtain ⟨h20, ⟨_, _, _, hB0, hL0⟩, hN⟩ := t
  induction b using Nat.strongRecOn with
  | _ b ih =>
    intro hb c h1 hc
    rcases Nat.eq_zero_or_pos b with e | hp
    · subst e
      rw [hL0 c hc, hB0 c hc, decide_eq_false (by omega : ¬ c = 0)]
      exact ⟨fun z => absurd z (by decide), fun z => absurd z.1 (by decide)⟩
    · obtain ⟨p, hpb, _, _, hB, hL, _⟩ := hN b hp hb
      by_cases e : c = b
      · subst e
        constructor
        · intro _
          refine ⟨hself c hb, fun s hs1 hs h => cu_nt fun z => ?_⟩
          have g1 := hsp s c hs1 hs hc h
          have g2 := hi c hb s (by omega) z
          omega
        · intro _
          rw [hL c hc, decide_eq_true (rfl : c = c), Bool.or_true]
      · rw [hL c hc, hB c hc, decide_eq_false e, Bool.or_false, Bool.or_false, Bool.and_eq_true, Bool.and_eq_true, ih p hpb (by omega) c h1 hc]
        constructor
        · rintro ⟨⟨g1, g2⟩, g3, g4⟩
          have g3 := of_decide_eq_true g3
          have g4 := of_decide_eq_true g4
          refine ⟨g1, fun s hs1 hs h => ?_⟩
          have hsb : ¬ s = b := by
            intro z
            subst z
            exact h.elim g3 g4
          rw [hB s (by omega), g2 s hs1 hs h, decide_eq_false hsb]
          rfl
        · rintro ⟨g1, g2⟩
          refine ⟨⟨g1, fun s hs1 hs h => ?_⟩, decide_eq_true ?_, decide_eq_true ?_⟩
          · have z := g2 s hs1 hs h
            rw [hB s (by omega), Bool.or_eq_false_iff] at z
            exact z.1
          · intro z
            exact cu_tf (hself b hb) (g2 b hp hb (Or.inl z))
          · intro z
            exact cu_tf (hself b hb) (g2 b hp hb (Or.inr z))
theorem cu_amt (t : cu_Tree B L H A P E F N) {b : Nat} (h1 : 1 ≤ b) (hb : b < N) : ∃ a, A b = nI a ∧ 1 ≤ a ∧ a ≤ 52428800 ∧ a ≤ 100 * 2 ^ b := by
  obtain ⟨h20, _, hN⟩ := t
  obtain ⟨p, hpb, _, _, _, _, _, _, a, e, g1, g2⟩ := hN b h1 hb
  refine ⟨a, e, g1, ?_, g2⟩
  have : 2 ^ b ≤ 2 ^ 19 := Nat.pow_le_pow_right (by decide) (by omega)
  have e2 : (2 : Nat) ^ 19 = 524288 := by decide
  omega
theorem cu_par (t : cu_Tree B L H A P E F N) {b : Nat} (h1 : 1 ≤ b) (hb : b < N) : ∃ p, p < b ∧ P b = nI p ∧ H b = H p + 1 ∧ (∀ j, j < 20 → bt (B b) j = (bt (B p) j || decide (j = b))) := by
  obtain ⟨h20, _, hN⟩ := t
  obtain ⟨p, hpb, h2, h3, h4, _⟩ := hN b h1 hb
  exact ⟨p, hpb, h2, h3, h4⟩
theorem cu_less (t : cu_Tree B L H A P E F N) {M : Nat} (h : M ≤ N) : cu_Tree B L H A P E F M :=
  ⟨Nat.le_trans h t.1, t.2.1, fun b h1 hb => t.2.2 b h1 (Nat.lt_of_lt_of_le hb h)⟩
theorem cu_add (t : cu_Tree B L H A P E F N) (hN : N < 20) {p : Nat} (hp : p < N) {b l h a e f : Int32}
    (hh : h = H p + 1)
    (hb : ∀ j, j < 20 → bt b j = (bt (B p) j || decide (j = N)))
    (hl : ∀ j, j < 20 → bt l j = ((bt (L p) j && (decide (¬ e = nI j) && decide (¬ f = nI j))) || decide (j = N)))
    (he : e = -1 ∨ ∃ c, c < N ∧ e = nI c) (hf : f = -1 ∨ ∃ c, c < N ∧ f = nI c)
    (ha : ∃ n, a = nI n ∧ 1 ≤ n ∧ n ≤ 100 * 2 ^ N) :
    cu_Tree (upd B N b) (upd L N l) (upd H N h) (upd A N a) (upd P N (nI p)) (upd E N e) (upd F N f) (N + 1) := by
  obtain ⟨_, ⟨z1, z2, z3, z4, z5⟩, hn⟩ := t
  have o : ∀ (g : Nat → Int32) (x : Int32) (j : Nat), j < N → upd g N x j = g j := fun g x j hj => pk_un (by omega)
  have s : ∀ (g : Nat → Int32) (x : Int32), upd g N x N = x := fun g x => pk_us
  refine ⟨by omega, ⟨?_, ?_, ?_, ?_, ?_⟩, ?_⟩
  · rw [o _ _ 0 (by omega)]; exact z1
  · rw [o _ _ 0 (by omega)]; exact z2
  · rw [o _ _ 0 (by omega)]; exact z3
  · rw [o _ _ 0 (by omega)]; exact z4
  · rw [o _ _ 0 (by omega)]; exact z5
  · intro i h1 hi
    by_cases ei : i = N
    · subst ei
      unfold cu_Node
      refine ⟨p, hp, ?_⟩
      rw [s, s, s, s, s, s, s, o _ _ p hp, o _ _ p hp, o _ _ p hp]
      exact ⟨rfl, hh, hb, hl, he, hf, ha⟩
    · obtain ⟨q, hq, g⟩ := hn i h1 (by omega)
      unfold cu_Node
      refine ⟨q, hq, ?_⟩
      rw [o _ _ i (by omega), o _ _ i (by omega), o _ _ i (by omega), o _ _ i (by omega), o _ _ i (by omega), o _ _ i (by omega), o _ _ i (by omega), o _ _ q (by omega), o _ _ q (by omega), o _ _ q (by omega)]
      exact g
end
end
section
/-! small facts on numbers -/
theorem cu_cl {j : Nat} (h : j < 20) : (nI j).toNatClampNeg = j := nI_clamp (by omega)
theorem cu_vi {j : Nat} (h : j < 20) : vp_in (nI j) 20 := vp_in_nI h (by decide)
theorem cu_cb (x : Int32) (N : Nat) : (∃ j, j < N ∧ x = nI j) ∨ (∀ j, j < N → ¬ x = nI j) := by
  by_cases h : ∃ j, j < N ∧ x = nI j
  · exact Or.inl h
  · exact Or.inr fun j hj e => h ⟨j, hj, e⟩
theorem cu_own (x : Int32) : (¬ x < 0 ∧ ¬ 4 ≤ x ∧ ¬ 3 < x ∧ x ≤ 3) ∨ x < 0 ∨ (¬ x < 0 ∧ 4 ≤ x ∧ 3 < x ∧ ¬ x ≤ 3) := by
  by_cases h : x < 0
  · exact Or.inr (Or.inl h)
  · obtain ⟨j, hj, e⟩ := nI_of h
    by_cases h4 : j < 4
    · refine Or.inl ⟨h, ?_, ?_, ?_⟩
      · rw [e]; exact nI_ge (b := 4) h4 (by decide)
      · rw [e]; exact nI_nlt (a := 3) (by omega) (by decide)
      · rw [e]; exact nI_le (b := 3) (by omega) (by decide)
    · refine Or.inr (Or.inr ⟨h, ?_, ?_, ?_⟩)
      · rw [e]; exact nI_le (a := 4) (by omega) hj
      · rw [e]; exact nI_lt (a := 3) (by omega) hj
      · rw [e]; exact nI_ge (a := 3) (by omega) hj
/-- x names a coin of the ledger of block p -/
def cu_Can (L : Nat → Int32) (N p : Nat) (x : Int32) : Prop := ∃ c, 1 ≤ c ∧ c < N ∧ x = nI c ∧ bt (L p) c = true
/-! static methods -/
theorem cu_size (x : Int32) (post : Int32 → Prop) (hp : post (nI (cu_cnt (fun j => bt x j) 20))) : wpX_sizeOf post x := by
  have h : ∀ d j, j + d = 20 → wX_sizeOf_4 post x (d + 1) (nI (cu_cnt (fun j => bt x j) j)) (nI j) := by
    intro d
    induction d with
    | zero =>
      intro j hj
      have e : j = 20 := by omega
      subst e
      exact br_t (nI_le (a := 20) (b := 20) (Nat.le_refl _) (by decide)) hp
    | succ d ih =>
      intro j hj
      refine br_f (nI_ge (b := 20) (by omega) (by decide)) (nm_r (e' := nI (cu_cnt (fun j => bt x j) (j + 1))) ?_ (nm_r (nI_1 j) (ih (j + 1) (by omega))))
      rw [cu_bit x (by omega), nI_add]
      rfl
  exact ⟨21, h 20 0 rfl⟩
theorem cu_in (x : Int32) {j : Nat} (hj : j < 20) (post : Int32 → Prop) (h1 : bt x j = true → post 1) (h0 : bt x j = false → post 0) : wpX_isIn post x (nI j) := by
  unfold wpX_isIn
  rw [cu_bit x hj]
  by_cases e : bt x j = true
  · rw [e]
    exact br_t (by decide) (h1 e)
  · rw [cu_nt e]
    exact br_f (by decide) (h0 (cu_nt e))
theorem cu_grt (x : Int32) (post : Int32 → Prop) (hp : post (nI (cu_top (fun j => bt x j) 20))) : wpX_greatestIn post x := by
  have h : ∀ d j, j + d = 20 → wX_greatestIn_4 post x (d + 1) (nI (cu_top (fun j => bt x j) j)) (nI j) := by
    intro d
    induction d with
    | zero =>
      intro j hj
      have e : j = 20 := by omega
      subst e
      exact br_t (nI_le (a := 20) (b := 20) (Nat.le_refl _) (by decide)) hp
    | succ d ih =>
      intro j hj
      refine br_f (nI_ge (b := 20) (by omega) (by decide)) ?_
      refine cu_in x (by omega) _ (fun e => ?_) (fun e => ?_)
      · refine br_f (by decide) (nm_r (nI_1 j) ?_)
        have g := ih (j + 1) (by omega)
        rw [cu_top_t (f := fun j => bt x j) e] at g
        exact g
      · refine br_t rfl (nm_r (nI_1 j) ?_)
        have g := ih (j + 1) (by omega)
        rw [cu_top_f (f := fun j => bt x j) (fun z => cu_tf z e)] at g
        exact g
  exact ⟨21, h 20 0 rfl⟩
section
variable {N T : Nat} {U : Int32} {B L H W A P E F K : Nat → Int32}
/-! the component's small methods -/
theorem cu_xFull_f (h : N < 20) (post : Int32 → Prop) (hp : post 0) : wpX_isFull post (nI N, nI T, U, B, L, H, W, A) := br_t (nI_lt (b := 20) h (by decide)) hp
theorem cu_xFull_t (h : N = 20) (post : Int32 → Prop) (hp : post 1) : wpX_isFull post (nI N, nI T, U, B, L, H, W, A) := br_f (nI_nlt (b := 20) (by omega) (by omega)) hp
theorem cu_xBlk_t {j : Nat} (hN : N ≤ 20) (h : j < N) (post : Int32 → Prop) (hp : post 1) : wpX_isBlock post (nI N, nI T, U, B, L, H, W, A) (nI j) := br_f (nI_pos (by omega)) (br_f (nI_ge h (by omega)) hp)
theorem cu_xBlk_f {x : Int32} (hN : N ≤ 20) (h : ∀ j, j < N → ¬ x = nI j) (post : Int32 → Prop) (hp : post 0) : wpX_isBlock post (nI N, nI T, U, B, L, H, W, A) x := by
  by_cases h1 : x < 0
  · exact br_t h1 hp
  · rcases pk_ix x (n := N) (by omega) with h0 | h0 | ⟨j, hj, e⟩
    · exact absurd h0 h1
    · exact br_f h1 (br_t h0 hp)
    · exact absurd e (h j hj)
theorem cu_xOwn_t {x : Int32} (h1 : ¬ x < 0) (h2 : ¬ 4 ≤ x) (post : Int32 → Prop) (hp : post 1) : wpX_isOwner post (nI N, nI T, U, B, L, H, W, A) x := br_f h1 (br_f h2 hp)
theorem cu_xOwn_f {x : Int32} (h : x < 0 ∨ (¬ x < 0 ∧ 4 ≤ x ∧ 3 < x ∧ ¬ x ≤ 3)) (post : Int32 → Prop) (hp : post 0) : wpX_isOwner post (nI N, nI T, U, B, L, H, W, A) x := by
  rcases h with h | h
  · exact br_t h hp
  · exact br_f h.1 (br_t h.2.1 hp)
theorem cu_xCan (t : cu_Tree B L H A P E F N) {p : Nat} (hp : p < N) (x : Int32) (post : Int32 → Prop) (h1 : cu_Can L N p x → post 1) (h0 : ¬ cu_Can L N p x → post 0) : wpX_canSpend post (nI N, nI T, U, B, L, H, W, A) (nI p) x := by
  have h20 := t.1
  unfold wpX_canSpend
  dsimp only
  rcases cu_cb x N with ⟨j, hj, e⟩ | h
  · subst e
    refine cu_xBlk_t h20 hj _ ?_
    refine br_f (by decide) ⟨cu_vi (by omega), ?_⟩
    rw [cu_cl (j := p) (by omega)]
    refine cu_in _ (by omega) _ (fun e => ?_) (fun e => ?_)
    · exact br_f (by decide) (h1 ⟨j, Nat.pos_of_ne_zero (fun z => by subst z; exact cu_tf e (cu_l0 t p hp)), hj, rfl, e⟩)
    · refine br_t rfl (h0 ?_)
      rintro ⟨c, _, hc, ec, g⟩
      have q := (cu_neq (by omega) (by omega)).mp ec
      subst q
      exact cu_tf g e
  · refine cu_xBlk_f h20 h _ ?_
    exact br_t rfl (h0 fun ⟨c, _, hc, e, _⟩ => h c hc e)
/-- owned by o, and in the tip's ledger -/
theorem cu_xOil (hT : T < 20) {c : Nat} (hc : c < 20) (o : Int32) (post : Int32 → Prop) (h1 : W c = o → bt (L T) c = true → post 1) (h0 : ¬ (W c = o ∧ bt (L T) c = true) → post 0) : wpX_isOwnedInLedger post (nI N, nI T, U, B, L, H, W, A) o (nI c) := by
  unfold wpX_isOwnedInLedger
  dsimp only
  rw [cu_cl hc, cu_cl hT]
  refine ⟨cu_vi hc, br_c (fun e => ⟨cu_vi hT, ?_⟩) (fun e => h0 (fun z => e z.1))⟩
  refine cu_in _ hc _ (fun g => ?_) (fun g => ?_)
  · exact br_f (by decide) (h1 e g)
  · exact br_t rfl (h0 (fun z => cu_tf z.2 g))
theorem cu_xFol {M : Int32} (hN : N < 20) (hT : T < 20) (post : SX → Prop)
    (h1 : H T < H N → post (M, nI N, nI (cu_cnt (fun j => bt (B T &&& (B N ^^^ (-1))) j) 20), B, L, H, W, A))
    (h2 : ¬ H T < H N → post (M, nI T, U, B, L, H, W, A)) : wpX_followIfHigher post (M, nI T, U, B, L, H, W, A) (nI N) := by
  unfold wpX_followIfHigher
  dsimp only
  rw [cu_cl hN, cu_cl hT]
  exact ⟨cu_vi hN, cu_vi hT, br_c (fun h => ⟨cu_vi hT, cu_vi hN, nm_e (cu_size _ _ (h1 h))⟩) (fun h => h2 h)⟩
theorem cu_xAdd {p : Nat} (hN : N < 20) (hp : p < N) (hT : T < N) (o a s : Int32) (post : Int32 → SX → Prop)
    {B' L' H' W' A' : Nat → Int32}
    (eB : B' = upd B N (B p ||| ((1 : Int32) <<< (nI N &&& 31))))
    (eL : L' = upd L N ((L p &&& (s ^^^ (-1))) ||| ((1 : Int32) <<< (nI N &&& 31))))
    (eH : H' = upd H N (H p + 1)) (eW : W' = upd W N o) (eA : A' = upd A N a)
    (h1 : H' T < H' N → post (nI N) (nI (N + 1), nI N, nI (cu_cnt (fun j => bt (B' T &&& (B' N ^^^ (-1))) j) 20), B', L', H', W', A'))
    (h2 : ¬ H' T < H' N → post (nI N) (nI (N + 1), nI T, U, B', L', H', W', A')) : wpX_addBlock post (nI N, nI T, U, B, L, H, W, A) (nI p) o a s := by
  subst eB eL eH eW eA
  unfold wpX_addBlock
  dsimp only
  rw [cu_cl hN, cu_cl (j := p) (by omega), nI_1 N]
  have iN := cu_vi hN
  have ip := cu_vi (j := p) (by omega)
  refine nm_e ⟨ip, iN, nm_e ⟨ip, iN, nm_e ⟨ip, iN, nm_e ⟨iN, nm_e ⟨iN, nm_e (nm_e ?_)⟩⟩⟩⟩⟩
  exact cu_xFol hN (by omega) _ h1 h2
/-! the reference's small methods -/
theorem cu_yBlk_t {j : Nat} (hN : N ≤ 20) (h : j < N) (post : Int32 → Prop) (hp : post 1) : wpY_isBlock post (nI N, nI T, U, P, W, A, E, F, K) (nI j) := br_f (nI_pos (by omega)) (br_f (nI_ge h (by omega)) hp)
theorem cu_yBlk_f {x : Int32} (hN : N ≤ 20) (h : ∀ j, j < N → ¬ x = nI j) (post : Int32 → Prop) (hp : post 0) : wpY_isBlock post (nI N, nI T, U, P, W, A, E, F, K) x := by
  by_cases h1 : x < 0
  · exact br_t h1 hp
  · rcases pk_ix x (n := N) (by omega) with h0 | h0 | ⟨j, hj, e⟩
    · exact absurd h0 h1
    · exact br_f h1 (br_t h0 hp)
    · exact absurd e (h j hj)
theorem cu_yHgt (t : cu_Tree B L H A P E F N) {b : Nat} (hb : b < N) (post : Int32 → Prop) (hp : post (H b)) : wpY_heightOf post (nI N, nI T, U, P, W, A, E, F, K) (nI b) := by
  have h20 := t.1
  have h : ∀ b, b < N → ∀ (n k : Nat) (x : Int32), b + 1 ≤ n → k + b < 20 → post (x + H b) → wY_heightOf_7 post (nI N) (nI T) U P W A E F K n x (nI b) (nI k) := by
    intro b
    induction b using Nat.strongRecOn with
    | _ b ih =>
      intro hb n k x hn hk hp
      obtain ⟨m, rfl⟩ : ∃ m, n = m + 1 := ⟨n - 1, by omega⟩
      refine br_f (nI_ge (b := 20) (by omega) (by decide)) ?_
      rcases Nat.eq_zero_or_pos b with e | h1
      · subst e
        rw [t.2.1.2.1, Int32.add_zero] at hp
        exact br_t (nI_le (b := 0) (Nat.le_refl _) (by decide)) hp
      · obtain ⟨p, hpb, eP, eH, _⟩ := cu_par t h1 hb
        refine br_f (nI_nle h1 (by omega)) (nm_e ⟨cu_vi (by omega), ?_⟩)
        rw [cu_cl (j := b) (by omega)]
        refine nm_r eP (nm_r (nI_1 k) (ih p hpb (by omega) m (k + 1) (x + 1) (by omega) (by omega) ?_))
        rw [eH, Int32.add_comm (H p) 1, ← Int32.add_assoc] at hp
        exact hp
  exact ⟨20, h b hb 20 0 0 (by omega) (by omega) (by rw [Int32.zero_add]; exact hp)⟩
theorem cu_yIn (t : cu_Tree B L H A P E F N) {a b : Nat} (ha : a < 20) (hb : b < N) (post : Int32 → Prop) (h1 : bt (B b) a = true → post 1) (h0 : bt (B b) a = false → post 0) : wpY_inBranch post (nI N, nI T, U, P, W, A, E, F, K) (nI a) (nI b) := by
  have h20 := t.1
  have h : ∀ b, b < N → ∀ n k : Nat, b + 2 ≤ n → k + b < 20 → (bt (B b) a = true → post 1) → (bt (B b) a = false → post 0) → wY_inBranch_5 post (nI a) (nI N) (nI T) U P W A E F K n (nI b) (nI k) := by
    intro b
    induction b using Nat.strongRecOn with
    | _ b ih =>
      intro hb n k hn hk h1 h0
      obtain ⟨m, rfl⟩ : ∃ m, n = m + 1 := ⟨n - 1, by omega⟩
      refine br_f (nI_ge (b := 20) (by omega) (by decide)) (br_f (nI_pos (by omega)) ?_)
      by_cases e : b = a
      · subst e
        exact br_t rfl (h1 (cu_bself t hb))
      · refine br_f (fun z => e ((cu_neq (by omega) ha).mp z)) ⟨cu_vi (by omega), ?_⟩
        rw [cu_cl (j := b) (by omega)]
        rcases Nat.eq_zero_or_pos b with e0 | hp
        · subst e0
          obtain ⟨m', rfl⟩ : ∃ m', m = m' + 1 := ⟨m - 1, by omega⟩
          have g : post 0 := h0 (by rw [t.2.1.2.2.2.1 a ha, decide_eq_false (by omega : ¬ a = 0)])
          refine nm_r t.2.1.1 (nm_r (nI_1 k) ?_)
          exact br_c (fun _ => g) (fun _ => br_t (by decide) g)
        · obtain ⟨p, hpb, eP, _, hB⟩ := cu_par t hp hb
          refine nm_r eP (nm_r (nI_1 k) (ih p hpb (by omega) m (k + 1) (by omega) (by omega) (fun z => h1 ?_) (fun z => h0 ?_)))
          · rw [hB a ha, z, Bool.true_or]
          · rw [hB a ha, z, decide_eq_false (by omega : ¬ a = b)]
            rfl
  exact ⟨21, h b hb 21 0 (by omega) (by omega) h1 h0⟩
theorem cu_yMeet (t : cu_Tree B L H A P E F N) {a b : Nat} (ha : a < N) (hb : b < N) (post : Int32 → Prop) (hp : post (nI (cu_top (fun j => bt (B a) j && bt (B b) j) N))) : wpY_meet post (nI N, nI T, U, P, W, A, E, F, K) (nI a) (nI b) := by
  have h20 := t.1
  have h : ∀ d j, j + d = N → wY_meet_5 post (nI a) (nI b) (nI N) (nI T) U P W A E F K (d + 1) (nI (cu_top (fun j => bt (B a) j && bt (B b) j) j)) (nI j) := by
    intro d
    induction d with
    | zero =>
      intro j hj
      have e : j = N := by omega
      subst e
      exact br_t (nI_le (Nat.le_refl _) (by omega)) hp
    | succ d ih =>
      intro j hj
      have g := ih (j + 1) (by omega)
      refine br_f (nI_ge (by omega) (by omega)) ?_
      refine cu_yIn t (by omega) ha _ (fun e => ?_) (fun e => ?_)
      · refine br_f (by decide) ?_
        refine cu_yIn t (by omega) hb _ (fun e2 => ?_) (fun e2 => ?_)
        · refine br_f (by decide) (nm_r (nI_1 j) ?_)
          rw [cu_top_t (f := fun j => bt (B a) j && bt (B b) j) (by rw [e, e2]; rfl)] at g
          exact g
        · refine br_t rfl (nm_r (nI_1 j) ?_)
          rw [cu_top_f (f := fun j => bt (B a) j && bt (B b) j) (by rw [e, e2]; decide)] at g
          exact g
      · refine br_t rfl (nm_r (nI_1 j) ?_)
        rw [cu_top_f (f := fun j => bt (B a) j && bt (B b) j) (by rw [e, Bool.false_and]; decide)] at g
        exact g
  exact ⟨N + 1, h N 0 (by omega)⟩
theorem cu_y54 (t : cu_Tree B L H A P E F N) {b s : Nat} (hb : b < N) (hs : s < N) (x : Int32) (post J : Int32 → Prop) (hJ : bt (B b) s = false → J (nI (s + 1))) (h0 : bt (B b) s = true → post 0) : wY_free_54 post J x (nI b) (nI s) (nI N) (nI T) U P W A E F K := by
  have h20 := t.1
  unfold wY_free_54
  refine cu_yIn t (by omega) hb _ (fun e => ?_) (fun e => ?_)
  · exact br_f (by decide) (h0 e)
  · exact br_t rfl (nm_r (nI_1 s) (hJ e))
theorem cu_yFree (t : cu_Tree B L H A P E F N) {p : Nat} (hp : p < N) (x : Int32) (post : Int32 → Prop) (h1 : cu_Can L N p x → post 1) (h0 : ¬ cu_Can L N p x → post 0) : wpY_free post (nI N, nI T, U, P, W, A, E, F, K) x (nI p) := by
  have h20 := t.1
  unfold wpY_free
  dsimp only
  rcases cu_cb x N with ⟨c, hc, e⟩ | hx
  · subst e
    rcases Nat.eq_zero_or_pos c with e | hc1
    · subst e
      refine br_t (nI_lt (b := 1) (by omega) (by decide)) (h0 ?_)
      rintro ⟨d, hd, hd2, ed, _⟩
      have := (cu_neq (by omega) (by omega)).mp ed
      omega
    · refine br_f (nI_nlt (b := 1) (by omega) (by omega)) (br_f (nI_ge hc (by omega)) ?_)
      have hfr := cu_fr t p hp c hc1 (by omega)
      have k0 : bt (L p) c = false → post 0 := fun e => h0 (by
        rintro ⟨d, hd, hd2, ed, g⟩
        have q := (cu_neq (by omega) (by omega)).mp ed
        subst q
        exact cu_tf g e)
      have k1 : bt (L p) c = true → post 1 := fun e => h1 ⟨c, hc1, hc, rfl, e⟩
      refine cu_yIn t (by omega) hp _ (fun e => ?_) (fun e => ?_)
      · refine br_f (by decide) ⟨N, ?_⟩
        have h : ∀ d s, s + d = N → 1 ≤ s → (∀ s', 1 ≤ s' → s' < s → (E s' = nI c ∨ F s' = nI c) → bt (B p) s' = false) → wY_free_26 post (nI c) (nI p) (nI N) (nI T) U P W A E F K (d + 1) (nI s) := by
          intro d
          induction d with
          | zero =>
            intro s hs hs1 hI
            have es : s = N := by omega
            subst es
            exact br_t (nI_le (Nat.le_refl _) (by omega)) (k1 (hfr.mpr ⟨e, hI⟩))
          | succ d ih =>
            intro s hs hs1 hI
            have bad : (E s = nI c ∨ F s = nI c) → bt (B p) s = true → post 0 := fun q z => k0 (cu_nt (fun w => cu_tf z ((hfr.mp w).2 s hs1 (by omega) q)))
            have nx : ((E s = nI c ∨ F s = nI c) → bt (B p) s = false) → wY_free_26 post (nI c) (nI p) (nI N) (nI T) U P W A E F K (d + 1) (nI (s + 1)) := fun q => ih (s + 1) (by omega) (by omega) (fun s' g1 g2 g3 => by
              by_cases es : s' = s
              · subst es; exact q g3
              · exact hI s' g1 (by omega) g3)
            refine br_f (nI_ge (by omega) (by omega)) ⟨cu_vi (by omega), ?_⟩
            rw [cu_cl (j := s) (by omega)]
            refine br_c (fun q => ?_) (fun q => ⟨cu_vi (by omega), br_c (fun q2 => ?_) (fun q2 => ?_)⟩)
            · exact cu_y54 t hp (by omega) _ post _ (fun z => nx (fun _ => z)) (bad (Or.inl q))
            · exact cu_y54 t hp (by omega) _ post _ (fun z => nx (fun _ => z)) (bad (Or.inr q2))
            · exact nm_r (nI_1 s) (nx (fun z => absurd z (fun w => w.elim q q2)))
        obtain ⟨M, rfl⟩ : ∃ M, N = M + 1 := ⟨N - 1, by omega⟩
        exact h M 1 (by omega) (Nat.le_refl _) (fun s' g1 g2 => by omega)
      · exact br_t rfl (k0 (cu_nt (fun w => cu_tf (hfr.mp w).1 e)))
  · have hn : ¬ cu_Can L N p x := fun ⟨c, _, hc, e, _⟩ => hx c hc e
    by_cases g : x < 1
    · exact br_t g (h0 hn)
    · rcases pk_ix x (n := N) (by omega) with q | q | ⟨j, hj, e⟩
      · exact absurd (Int32.lt_trans q (by decide)) g
      · exact br_f g (br_t q (h0 hn))
      · exact absurd e (hx j hj)
end
end
section
/-! the relation of the two states, and a new block on both sides -/
def cu_Rel (u : SX) (v : SY) : Prop :=
  ∃ (N T : Nat) (U : Int32) (B L H W A P E F K : Nat → Int32),
    u = (nI N, nI T, U, B, L, H, W, A) ∧ v = (nI N, nI T, U, P, W, A, E, F, K) ∧ T < N ∧ cu_Tree B L H A P E F N
section
variable {N T : Nat} {U : Int32} {B L H W A P E F K : Nat → Int32}
theorem cu_yAdd {p : Nat} (hN : N < 20) (hT : T < N) (o a e f : Int32) (post : Int32 → SY → Prop)
    {B' L' H' W' A' P' E' F' : Nat → Int32} (t' : cu_Tree B' L' H' A' P' E' F' (N + 1))
    (eP : P' = upd P N (nI p)) (eW : W' = upd W N o) (eA : A' = upd A N a) (eE : E' = upd E N e) (eF : F' = upd F N f)
    (h1 : H' T < H' N → post (nI N) (nI (N + 1), nI N, H' T - H' (cu_top (fun j => bt (B' T) j && bt (B' N) j) (N + 1)), P', W', A', E', F', K))
    (h2 : ¬ H' T < H' N → post (nI N) (nI (N + 1), nI T, U, P', W', A', E', F', K)) : wpY_addBlock post (nI N, nI T, U, P, W, A, E, F, K) (nI p) o a e f := by
  subst eP eW eA eE eF
  unfold wpY_addBlock
  dsimp only
  rw [cu_cl hN, nI_1 N]
  have iN := cu_vi hN
  refine ⟨iN, nm_e ⟨iN, nm_e ⟨iN, nm_e ⟨iN, nm_e ⟨iN, nm_e (nm_e ?_)⟩⟩⟩⟩⟩
  rw [nI_pred N]
  refine cu_yHgt t' (by omega) _ ?_
  refine cu_yHgt t' (by omega) _ ?_
  refine br_c (fun h => h2 (Int32.not_lt.mpr h)) (fun h => ?_)
  have hl : H' T < H' N := Int32.not_le.mp h
  refine cu_yMeet t' (by omega) (by omega) _ ?_
  refine cu_yHgt t' (by omega) _ ?_
  have hm := (cu_top_spec (f := fun j => bt (B' T) j && bt (B' N) j) (by rw [cu_b0 t' T (by omega), cu_b0 t' N (by omega)]; rfl) (N + 1) (by omega)).2.1
  refine cu_yHgt t' hm _ ?_
  exact nm_e (nm_e (h1 hl))
theorem cu_new (t : cu_Tree B L H A P E F N) (hN : N < 20) {p : Nat} (hp : p < N) {a s e f : Int32}
    (hs : ∀ j, j < 20 → bt s j = !(decide (¬ e = nI j) && decide (¬ f = nI j)))
    (he : e = -1 ∨ ∃ c, c < N ∧ e = nI c) (hf : f = -1 ∨ ∃ c, c < N ∧ f = nI c)
    (ha : ∃ n, a = nI n ∧ 1 ≤ n ∧ n ≤ 100 * 2 ^ N) :
    cu_Tree (upd B N (B p ||| ((1 : Int32) <<< (nI N &&& 31)))) (upd L N ((L p &&& (s ^^^ (-1))) ||| ((1 : Int32) <<< (nI N &&& 31)))) (upd H N (H p + 1)) (upd A N a) (upd P N (nI p)) (upd E N e) (upd F N f) (N + 1) := by
  refine cu_add t hN hp rfl (fun j hj => ?_) (fun j hj => ?_) he hf ha
  · rw [b_or, cu_shl hN hj]
  · rw [b_or, b_and, cu_not s hj, hs j hj, cu_shl hN hj, Bool.not_not]
theorem cu_both (t : cu_Tree B L H A P E F N) (hN : N < 20) {p : Nat} (hp : p < N) (hT : T < N) (o : Int32) {a s e f : Int32}
    (hs : ∀ j, j < 20 → bt s j = !(decide (¬ e = nI j) && decide (¬ f = nI j)))
    (he : e = -1 ∨ ∃ c, c < N ∧ e = nI c) (hf : f = -1 ∨ ∃ c, c < N ∧ f = nI c)
    (ha : ∃ n, a = nI n ∧ 1 ≤ n ∧ n ≤ 100 * 2 ^ N) :
    ∃ (u : SX) (v : SY), cu_Rel u v ∧ (∀ post : Int32 → SX → Prop, post (nI N) u → wpX_addBlock post (nI N, nI T, U, B, L, H, W, A) (nI p) o a s) ∧ (∀ post : Int32 → SY → Prop, post (nI N) v → wpY_addBlock post (nI N, nI T, U, P, W, A, E, F, K) (nI p) o a e f) := by
  have t' := cu_new t hN hp hs he hf ha
  generalize eB : upd B N (B p ||| ((1 : Int32) <<< (nI N &&& 31))) = B' at t'
  generalize eL : upd L N ((L p &&& (s ^^^ (-1))) ||| ((1 : Int32) <<< (nI N &&& 31))) = L' at t'
  generalize eH : upd H N (H p + 1) = H' at t'
  generalize eA : upd A N a = A' at t'
  generalize eP : upd P N (nI p) = P' at t'
  generalize eE : upd E N e = E' at t'
  generalize eF : upd F N f = F' at t'
  by_cases h : H' T < H' N
  · have hsp := cu_top_spec (f := fun j => bt (B' T) j && bt (B' N) j) (by rw [cu_b0 t' T (by omega), cu_b0 t' N (by omega)]; rfl) (N + 1) (by omega)
    obtain ⟨q1, q2, q3⟩ := hsp
    rw [Bool.and_eq_true] at q1
    have hu := cu_und t' (x := T) (y := N) (by omega) (by omega) q1.1 q1.2 (by omega) (fun j hj w1 w2 => q3 j (by have := cu_bhi t' N (by omega) j hj w2; omega) (by rw [w1, w2]; rfl))
    have e1 : cu_cnt (fun j => bt (B' T &&& (B' N ^^^ (-1))) j) 20 = cu_cnt (fun j => bt (B' T) j && !bt (B' N) j) 20 := cu_cnt_congr 20 (fun j hj => by rw [b_and, cu_not _ hj])
    refine ⟨_, _, ⟨N + 1, N, nI (cu_cnt (fun j => bt (B' T &&& (B' N ^^^ (-1))) j) 20), B', L', H', upd W N o, A', P', E', F', K, rfl, rfl, by omega, t'⟩, fun post hpo => ?_, fun post hpo => ?_⟩
    · exact cu_xAdd hN hp hT o a s post eB.symm eL.symm eH.symm rfl eA.symm (fun _ => hpo) (fun z => absurd h z)
    · rw [e1, hu] at hpo
      exact cu_yAdd hN hT o a e f post t' eP.symm rfl eA.symm eE.symm eF.symm (fun _ => hpo) (fun z => absurd h z)
  · refine ⟨_, _, ⟨N + 1, T, U, B', L', H', upd W N o, A', P', E', F', K, rfl, rfl, by omega, t'⟩, fun post hpo => ?_, fun post hpo => ?_⟩
    · exact cu_xAdd hN hp hT o a s post eB.symm eL.symm eH.symm rfl eA.symm (fun z => absurd z h) (fun _ => hpo)
    · exact cu_yAdd hN hT o a e f post t' eP.symm rfl eA.symm eE.symm eF.symm (fun z => absurd z h) (fun _ => hpo)
end
end
section
/-! sums, counts and the largest coin: both sides in step -/
section
variable {N T : Nat} {U : Int32} {B L H W A P E F K : Nat → Int32}
theorem cu_canI {p c : Nat} (h1 : 1 ≤ c) (hc : c < N) (hN : N ≤ 20) : cu_Can L N p (nI c) ↔ bt (L p) c = true := by
  constructor
  · rintro ⟨d, hd, hd2, ed, g⟩
    have q := (cu_neq (by omega) (by omega)).mp ed
    subst q
    exact g
  · exact fun g => ⟨c, h1, hc, rfl, g⟩
theorem cu_bal (t : cu_Tree B L H A P E F N) (hT : T < N) (o : Int32) : ∀ (d c : Nat) (s : Int64), 1 ≤ c → c + d = N → ∃ r : Int64, (∀ post : Int64 → Prop, post r → wX_balance_5 post o (nI N) (nI T) U B L H W A (d + 1) s (nI c)) ∧ (∀ post : Int64 → Prop, post r → wY_balance_5 post o (nI N) (nI T) U P W A E F K (d + 1) s (nI c)) := by
  have h20 := t.1
  intro d
  induction d with
  | zero =>
    intro c s h1 hc
    have e : c = N := by omega
    subst e
    have h : nI c ≤ nI c := nI_le (Nat.le_refl _) (by omega)
    exact ⟨s, fun _ hp => br_t h hp, fun _ hp => br_t h hp⟩
  | succ d ih =>
    intro c s h1 hc
    have h : ¬ nI N ≤ nI c := nI_ge (by omega) (by omega)
    have hcan := cu_canI (L := L) (p := T) h1 (by omega : c < N) h20
    by_cases q : W c = o ∧ bt (L T) c = true
    · obtain ⟨r, hX, hY⟩ := ih (c + 1) (s + (A c).toInt64) (by omega) (by omega)
      refine ⟨r, fun post hp => br_f h ?_, fun post hp => br_f h ⟨cu_vi (by omega), ?_⟩⟩
      · refine cu_xOil (by omega) (by omega) o _ (fun _ _ => ?_) (fun z => absurd q z)
        refine br_f (by decide) ⟨cu_vi (by omega), ?_⟩
        rw [cu_cl (j := c) (by omega)]
        exact nm_e (nm_r (nI_1 c) (hX post hp))
      · rw [cu_cl (j := c) (by omega)]
        refine br_t q.1 ?_
        refine cu_yFree t hT (nI c) _ (fun _ => ?_) (fun z => absurd (hcan.mpr q.2) z)
        exact br_f (by decide) ⟨cu_vi (by omega), nm_e (nm_r (nI_1 c) (hY post hp))⟩
    · obtain ⟨r, hX, hY⟩ := ih (c + 1) s (by omega) (by omega)
      refine ⟨r, fun post hp => br_f h ?_, fun post hp => br_f h ⟨cu_vi (by omega), ?_⟩⟩
      · refine cu_xOil (by omega) (by omega) o _ (fun a b => absurd ⟨a, b⟩ q) (fun _ => ?_)
        exact br_t rfl (nm_r (nI_1 c) (hX post hp))
      · rw [cu_cl (j := c) (by omega)]
        refine br_c (fun e => ?_) (fun _ => nm_r (nI_1 c) (hY post hp))
        refine cu_yFree t hT (nI c) _ (fun z => absurd ⟨e, hcan.mp z⟩ q) (fun _ => ?_)
        exact br_t rfl (nm_r (nI_1 c) (hY post hp))
theorem cu_yCoins (t : cu_Tree B L H A P E F N) (hT : T < N) (post : Int32 → Prop) (hp : post (nI (cu_cnt (fun j => bt (L T) j) N))) : ∀ d c : Nat, 1 ≤ c → c + d = N → wY_coins_4 post (nI N) (nI T) U P W A E F K (d + 1) (nI (cu_cnt (fun j => bt (L T) j) c)) (nI c) := by
  have h20 := t.1
  intro d
  induction d with
  | zero =>
    intro c h1 hc
    have e : c = N := by omega
    subst e
    exact br_t (nI_le (Nat.le_refl _) (by omega)) hp
  | succ d ih =>
    intro c h1 hc
    have g := ih (c + 1) (by omega) (by omega)
    have hcan := cu_canI (L := L) (p := T) h1 (by omega : c < N) h20
    have e1 : cu_cnt (fun j => bt (L T) j) (c + 1) = cu_cnt (fun j => bt (L T) j) c + (bt (L T) c).toNat := rfl
    refine br_f (nI_ge (by omega) (by omega)) ?_
    refine cu_yFree t hT (nI c) _ (fun z => ?_) (fun z => ?_)
    · rw [e1, hcan.mp z] at g
      exact br_f (by decide) (nm_r (nI_1 _) (nm_r (nI_1 c) g))
    · rw [e1, cu_nt (fun w => z (hcan.mpr w))] at g
      exact br_t rfl (nm_r (nI_1 c) g)
theorem cu_38_0 {J : Int32 → Int32 → Prop} {post : Int32 → Prop} {x1 x2 x3 : Int32} {c : Nat} (h : J x3 (nI (c + 1))) : wX_largestCoin_38 post J x1 x2 x3 (nI c) 0 (nI N) (nI T) U B L H W A := br_t rfl (nm_r (nI_1 c) h)
theorem cu_38_1 {J : Int32 → Int32 → Prop} {post : Int32 → Prop} {x1 x2 : Int32} {g c : Nat} (hg : g < 20) (hc : c < 20) (h1 : A c ≤ A g → J (nI g) (nI (c + 1))) (h2 : ¬ A c ≤ A g → J (nI c) (nI (c + 1))) : wX_largestCoin_38 post J x1 x2 (nI g) (nI c) 1 (nI N) (nI T) U B L H W A := by
  unfold wX_largestCoin_38
  rw [cu_cl hg, cu_cl hc]
  exact br_f (by decide) ⟨cu_vi hc, cu_vi hg, br_c (fun z => nm_r (nI_1 c) (h1 z)) (fun z => nm_r (nI_1 c) (h2 z))⟩
theorem cu_big (t : cu_Tree B L H A P E F N) (hT : T < N) (o : Int32) {M : Int32} (hK : ∀ j, j < 20 → (bt M j = true ↔ ¬ K j = 0)) :
    ∀ d c g : Nat, 1 ≤ c → c + d = N → g < c → (g = 0 ∨ bt M g = false) → ∃ r : Nat, r < N ∧ (r = 0 ∨ bt M r = false) ∧ (∀ post : Int32 → Prop, post (nI r) → wX_largestCoin_5 post o M (nI N) (nI T) U B L H W A (d + 1) (nI g) (nI c)) ∧ (∀ post : Int32 → Prop, post (nI r) → wY_greatest_4 post o (nI N) (nI T) U P W A E F K (d + 1) (nI g) (nI c)) := by
  have h20 := t.1
  intro d
  induction d with
  | zero =>
    intro c g h1 hc hg hM
    have e : c = N := by omega
    subst e
    have h : nI c ≤ nI c := nI_le (Nat.le_refl _) (by omega)
    exact ⟨g, hg, hM, fun _ hp => br_t h hp, fun _ hp => br_t h hp⟩
  | succ d ih =>
    intro c g h1 hc hg hM
    have h : ¬ nI N ≤ nI c := nI_ge (by omega) (by omega)
    have hcan := cu_canI (L := L) (p := T) h1 (by omega : c < N) h20
    have hKc := hK c (by omega)
    by_cases q : W c = o ∧ bt (L T) c = true ∧ bt M c = false
    · obtain ⟨q1, q2, q3⟩ := q
      have k0 : K c = 0 := Classical.byContradiction (fun z => cu_tf (hKc.mpr z) q3)
      by_cases z : A c ≤ A g
      · have hg0 : ¬ g = 0 := by
          intro e
          subst e
          obtain ⟨a, ea, ha1, ha2, _⟩ := cu_amt t h1 (by omega)
          rw [ea, t.2.1.2.2.1] at z
          exact nI_nle ha1 (by omega) z
        obtain ⟨r, hr, hrM, hX, hY⟩ := ih (c + 1) g (by omega) (by omega) (by omega) hM
        refine ⟨r, hr, hrM, fun post hp => br_f h ?_, fun post hp => br_f h ⟨cu_vi (by omega), ?_⟩⟩
        · refine cu_xOil (by omega) (by omega) o _ (fun _ _ => ?_) (fun w => absurd ⟨q1, q2⟩ w)
          refine br_f (by decide) ?_
          refine cu_in M (by omega) _ (fun w => absurd w (fun w => cu_tf w q3)) (fun _ => ?_)
          exact br_t rfl (cu_38_1 (by omega) (by omega) (fun _ => hX post hp) (fun w => absurd z w))
        · rw [cu_cl (j := c) (by omega), cu_cl (j := g) (by omega)]
          refine br_t k0 ⟨cu_vi (by omega), br_t q1 ?_⟩
          refine cu_yFree t hT (nI c) _ (fun _ => ?_) (fun w => absurd (hcan.mpr q2) w)
          exact br_f (by decide) (br_f (nI_ne0 (by omega) (by omega)) ⟨cu_vi (by omega), cu_vi (by omega), br_t z (nm_r (nI_1 c) (hY post hp))⟩)
      · obtain ⟨r, hr, hrM, hX, hY⟩ := ih (c + 1) c (by omega) (by omega) (by omega) (Or.inr q3)
        refine ⟨r, hr, hrM, fun post hp => br_f h ?_, fun post hp => br_f h ⟨cu_vi (by omega), ?_⟩⟩
        · refine cu_xOil (by omega) (by omega) o _ (fun _ _ => ?_) (fun w => absurd ⟨q1, q2⟩ w)
          refine br_f (by decide) ?_
          refine cu_in M (by omega) _ (fun w => absurd w (fun w => cu_tf w q3)) (fun _ => ?_)
          exact br_t rfl (cu_38_1 (by omega) (by omega) (fun w => absurd w z) (fun _ => hX post hp))
        · rw [cu_cl (j := c) (by omega), cu_cl (j := g) (by omega)]
          refine br_t k0 ⟨cu_vi (by omega), br_t q1 ?_⟩
          refine cu_yFree t hT (nI c) _ (fun _ => ?_) (fun w => absurd (hcan.mpr q2) w)
          exact br_f (by decide) (br_c (fun _ => nm_r (nI_1 c) (hY post hp)) (fun _ => ⟨cu_vi (by omega), cu_vi (by omega), br_f z (nm_r (nI_1 c) (hY post hp))⟩))
    · obtain ⟨r, hr, hrM, hX, hY⟩ := ih (c + 1) g (by omega) (by omega) (by omega) hM
      refine ⟨r, hr, hrM, fun post hp => br_f h ?_, fun post hp => br_f h ⟨cu_vi (by omega), ?_⟩⟩
      · refine cu_xOil (by omega) (by omega) o _ (fun q1 q2 => ?_) (fun _ => ?_)
        · refine br_f (by decide) ?_
          refine cu_in M (by omega) _ (fun _ => ?_) (fun w => absurd ⟨q1, q2, w⟩ q)
          exact br_f (by decide) (cu_38_0 (hX post hp))
        · exact br_t rfl (cu_38_0 (hX post hp))
      · rw [cu_cl (j := c) (by omega)]
        refine br_c (fun k0 => ⟨cu_vi (by omega), br_c (fun q1 => ?_) (fun _ => nm_r (nI_1 c) (hY post hp))⟩) (fun _ => nm_r (nI_1 c) (hY post hp))
        refine cu_yFree t hT (nI c) _ (fun w => absurd ⟨q1, hcan.mp w, cu_nt (fun w => (hKc.mp w) k0)⟩ q) (fun _ => ?_)
        exact br_t rfl (nm_r (nI_1 c) (hY post hp))
theorem cu_vpb1 : vp_nar .boolean 1 = 1 := rfl
theorem cu_vpb0 : vp_nar .boolean 0 = 0 := rfl
theorem cu_few (t : cu_Tree B L H A P E F N) (hT : T < N) (o x : Int32) :
    ∀ (d k : Nat) (M : Int32) (K : Nat → Int32) (s : Nat) (l : Int64), k + d = 20 → (∀ j, j < 20 → (bt M j = true ↔ ¬ K j = 0)) → bt M 0 = false → cu_cnt (fun j => bt M j) 20 = k → s ≤ k * 52428800 → l.toInt = x.toInt - (s : Int) →
      ∃ (r : Int32) (K' : Nat → Int32), (∀ post : Int32 → Prop, post r → wX_fewestFor_18 post o x (nI N) (nI T) U B L H W A (d + 1) M (nI s) (nI k)) ∧ (∀ post : Int32 → SY → Prop, post r (nI N, nI T, U, P, W, A, E, F, K') → wY_fewestFor_38 post o (nI N) (nI T) U (d + 1) l (nI k) P W A E F K) := by
  have h20 := t.1
  intro d
  induction d with
  | zero =>
    intro k M K s l hk hK h0 hc
    have hx : cu_cnt (fun j => bt M j) 20 ≤ 19 := cu_cnt_lt (f := fun j => bt M j) h0 19
    rw [hc] at hx
    omega
  | succ d ih =>
    intro k M K s l hk hK h0 hc hs hl
    have hk20 : ¬ (20 : Int32) ≤ nI k := nI_ge (b := 20) (by omega) (by decide)
    have hs31 : s < 2 ^ 31 := by omega
    have hll := cu_lle x hs31 hl
    by_cases z : nI s < x
    · have hz : ¬ x ≤ nI s := Int32.not_le.mpr z
      have hz2 : 0 < l := Int64.not_le.mp (fun w => hll.mp w z)
      obtain ⟨g, hg, hgM, gX, gY⟩ := cu_big (U := U) (W := W) t hT o hK (N - 1) 1 0 (Nat.le_refl _) (by omega) (by omega) (Or.inl rfl)
      rcases Nat.eq_zero_or_pos g with e | hg1
      · subst e
        exact ⟨-4, K, fun post hp => br_f hk20 (br_f hz ⟨_, gX _ (br_t rfl hp)⟩), fun post hp => br_f hk20 (br_t hz2 ⟨_, gY _ (br_t rfl hp)⟩)⟩
      · have hgM : bt M g = false := hgM.resolve_left (by omega)
        obtain ⟨a, ea, ha1, ha2, _⟩ := cu_amt t hg1 hg
        have hb : ∀ j, j < 20 → bt (M ||| ((1 : Int32) <<< (nI g &&& 31))) j = (bt M j || decide (j = g)) := fun j hj => by rw [b_or, cu_shl (by omega) hj]
        have hcn : cu_cnt (fun j => bt (M ||| ((1 : Int32) <<< (nI g &&& 31))) j) 20 = k + 1 := by
          have e1 : cu_cnt (fun j => bt (M ||| ((1 : Int32) <<< (nI g &&& 31))) j) 20 = cu_cnt (fun j => bt M j || decide (j = g)) 20 := cu_cnt_congr 20 hb
          have e2 : cu_cnt (fun j => bt M j || decide (j = g)) 20 = cu_cnt (fun j => bt M j) 20 + (decide (g < 20)).toNat := cu_cnt_add (f := fun j => bt M j) hgM 20
          rw [e1, e2, hc, decide_eq_true (by omega : g < 20)]
          rfl
        obtain ⟨r, K', hX, hY⟩ := ih (k + 1) (M ||| ((1 : Int32) <<< (nI g &&& 31))) (upd K g 1) (s + a) (l - (nI a).toInt64) (by omega) (fun j hj => by
          rw [hb j hj]
          by_cases e : j = g
          · subst e
            rw [decide_eq_true (rfl : j = j), Bool.or_true, pk_us]
            exact ⟨fun _ => by decide, fun _ => rfl⟩
          · rw [decide_eq_false e, Bool.or_false, pk_un e]
            exact hK j hj) (by rw [hb 0 (by omega), h0, decide_eq_false (by omega : ¬ 0 = g)]; rfl) hcn (by omega) (cu_lsub x hs31 (by omega) hl)
        refine ⟨r, K', fun post hp => br_f hk20 (br_f hz ⟨_, gX _ ?_⟩), fun post hp => br_f hk20 (br_t hz2 ⟨_, gY _ ?_⟩)⟩
        · refine br_f (nI_ne0 hg1 (by omega)) (nm_e ⟨cu_vi (by omega), nm_r ?_ (nm_r (nI_1 k) (hX post hp))⟩)
          rw [cu_cl (j := g) (by omega), ea, nI_add]
        · refine br_f (nI_ne0 hg1 (by omega)) ⟨cu_vi (by omega), nm_r ?_ ⟨cu_vi (by omega), nm_r ?_ (nm_r (nI_1 k) (hY post hp))⟩⟩
          · rw [cu_cl (j := g) (by omega), cu_vpb1]
          · rw [cu_cl (j := g) (by omega), ea]
    · have hz : x ≤ nI s := Int32.not_lt.mp z
      have hz2 : ¬ 0 < l := Int64.not_lt.mpr (hll.mpr z)
      refine ⟨nI k, K, fun post hp => br_f hk20 (br_t hz ?_), fun post hp => br_f hk20 (br_f hz2 hp)⟩
      unfold wX_fewestFor_72
      exact cu_size M _ (by rw [hc]; exact hp)
def cu_clr (K : Nat → Int32) : Nat → Nat → Int32
  | 0 => K
  | j + 1 => upd (cu_clr K j) j 0
theorem cu_clr0 (K : Nat → Int32) (n : Nat) : ∀ j, j < n → cu_clr K n j = 0 := by
  induction n with
  | zero => intro j hj; omega
  | succ n ih =>
    intro j hj
    show upd (cu_clr K n) n 0 j = 0
    by_cases e : j = n
    · subst e; exact pk_us
    · rw [pk_un e]; exact ih j (by omega)
theorem cu_yClr (o x : Int32) (post : Int32 → SY → Prop) (h : ∃ n, wY_fewestFor_38 post o (nI N) (nI T) U n x.toInt64 0 P W A E F (cu_clr K 20)) : ∀ d j : Nat, j + d = 20 → wY_fewestFor_13 post o x (nI N) (nI T) U (d + 1) (nI j) P W A E F (cu_clr K j) := by
  intro d
  induction d with
  | zero =>
    intro j hj
    have e : j = 20 := by omega
    subst e
    exact br_t (nI_le (a := 20) (b := 20) (Nat.le_refl _) (by decide)) h
  | succ d ih =>
    intro j hj
    refine br_f (nI_ge (b := 20) (by omega) (by decide)) ⟨cu_vi (by omega), nm_r ?_ (nm_r (nI_1 j) (ih (j + 1) (by omega)))⟩
    rw [cu_cl (j := j) (by omega), cu_vpb0]
    rfl
end
end
section
/-! what is owed: the relation, and the methods that only ask -/
def i_Rel (k : Nat) (u : SX) (v : SY) : Prop := cu_Rel u v
theorem i_up {k : Nat} {u : SX} {v : SY} (h : i_Rel k u v) : i_Rel (k + 5) u v := h
theorem i_vc0 : wpX_init (fun u => wpY_init (fun v => i_Rel 0 u v)) := by
  unfold wpX_init wpY_init
  refine nm_e (nm_e (nm_e (nm_e ?_)))
  refine ⟨1, 0, 0, upd (fun _ => 0) 0 1, fun _ => 0, fun _ => 0, fun _ => 0, fun _ => 0, upd (fun _ => 0) 0 (-1), upd (fun _ => 0) 0 (-1), upd (fun _ => 0) 0 (-1), fun _ => 0, rfl, rfl, by decide, by decide, ⟨pk_us, rfl, rfl, fun j hj => ?_, fun j hj => b_0 j⟩, fun b h1 hb => by omega⟩
  rw [pk_us]
  exact cu_b1 j (by omega)
theorem i_vc_blocks {k : Nat} {u : SX} {v : SY} (I : i_Rel k u v) (hk : k + 5 ≤ 2560) : wpX_blocks (fun r => wpY_blocks (fun r' => r' = r ∧ i_Rel (k + 5) u v) v) u := by
  have J : i_Rel (k + 5) u v := I
  obtain ⟨N, T, U, B, L, H, W, A, P, E, F, K, rfl, rfl, hT, t⟩ := I
  unfold wpX_blocks wpY_blocks
  dsimp only
  exact ⟨rfl, J⟩
theorem i_vc_tip {k : Nat} {u : SX} {v : SY} (I : i_Rel k u v) (hk : k + 5 ≤ 2560) : wpX_tip (fun r => wpY_tip (fun r' => r' = r ∧ i_Rel (k + 5) u v) v) u := by
  have J : i_Rel (k + 5) u v := I
  obtain ⟨N, T, U, B, L, H, W, A, P, E, F, K, rfl, rfl, hT, t⟩ := I
  unfold wpX_tip wpY_tip
  dsimp only
  exact ⟨rfl, J⟩
theorem i_vc_undone {k : Nat} {u : SX} {v : SY} (I : i_Rel k u v) (hk : k + 5 ≤ 2560) : wpX_undone (fun r => wpY_undone (fun r' => r' = r ∧ i_Rel (k + 5) u v) v) u := by
  have J : i_Rel (k + 5) u v := I
  obtain ⟨N, T, U, B, L, H, W, A, P, E, F, K, rfl, rfl, hT, t⟩ := I
  unfold wpX_undone wpY_undone
  dsimp only
  exact ⟨rfl, J⟩
theorem i_vc_height {k : Nat} {u : SX} {v : SY} (I : i_Rel k u v) (hk : k + 5 ≤ 2560) (v1 : Int32) : wpX_height (fun r => wpY_height (fun r' => r' = r ∧ i_Rel (k + 5) u v) v v1) u v1 := by
  have J : i_Rel (k + 5) u v := I
  obtain ⟨N, T, U, B, L, H, W, A, P, E, F, K, rfl, rfl, hT, t⟩ := I
  have h20 := t.1
  unfold wpX_height wpY_height
  dsimp only
  rcases cu_cb v1 N with ⟨j, hj, rfl⟩ | h
  · refine cu_xBlk_t h20 hj _ (br_f (by decide) ⟨cu_vi (by omega), ?_⟩)
    rw [cu_cl (j := j) (by omega)]
    refine cu_yBlk_t h20 hj _ (br_f (by decide) ?_)
    exact cu_yHgt t hj _ ⟨rfl, J⟩
  · exact cu_xBlk_f h20 h _ (br_t rfl (cu_yBlk_f h20 h _ (br_t rfl ⟨rfl, J⟩)))
theorem i_vc_unspent {k : Nat} {u : SX} {v : SY} (I : i_Rel k u v) (hk : k + 5 ≤ 2560) (v1 : Int32) : wpX_unspent (fun r => wpY_unspent (fun r' => r' = r ∧ i_Rel (k + 5) u v) v v1) u v1 := by
  have J : i_Rel (k + 5) u v := I
  obtain ⟨N, T, U, B, L, H, W, A, P, E, F, K, rfl, rfl, hT, t⟩ := I
  unfold wpX_unspent wpY_unspent
  dsimp only
  refine cu_xCan t hT v1 _ (fun c => ⟨rfl, ?_⟩) (fun c => ⟨rfl, ?_⟩)
  · exact cu_yFree t hT v1 _ (fun _ => ⟨rfl, rfl, J⟩) (fun z => absurd c z)
  · exact cu_yFree t hT v1 _ (fun z => absurd z c) (fun _ => ⟨rfl, rfl, J⟩)
theorem i_vc_amount {k : Nat} {u : SX} {v : SY} (I : i_Rel k u v) (hk : k + 5 ≤ 2560) (v1 : Int32) : wpX_amount (fun r => wpY_amount (fun r' => r' = r ∧ i_Rel (k + 5) u v) v v1) u v1 := by
  have J : i_Rel (k + 5) u v := I
  obtain ⟨N, T, U, B, L, H, W, A, P, E, F, K, rfl, rfl, hT, t⟩ := I
  have h20 := t.1
  unfold wpX_amount wpY_amount
  dsimp only
  rcases cu_cb v1 N with ⟨j, hj, rfl⟩ | h
  · refine cu_xBlk_t h20 hj _ (br_f (by decide) ⟨cu_vi (by omega), ?_⟩)
    rw [cu_cl (j := j) (by omega)]
    rcases Nat.eq_zero_or_pos j with e | h1
    · subst e
      exact br_t (nI_le (b := 0) (Nat.le_refl _) (by decide)) ⟨t.2.1.2.2.1.symm, J⟩
    · exact br_f (nI_nle h1 (by omega)) (cu_yBlk_t h20 hj _ (br_f (by decide) ⟨cu_vi (by omega), rfl, J⟩))
  · refine cu_xBlk_f h20 h _ (br_t rfl ?_)
    exact br_c (fun _ => ⟨rfl, J⟩) (fun _ => cu_yBlk_f h20 h _ (br_t rfl ⟨rfl, J⟩))
theorem i_vc_balance {k : Nat} {u : SX} {v : SY} (I : i_Rel k u v) (hk : k + 5 ≤ 2560) (v1 : Int32) : wpX_balance (fun r => wpY_balance (fun r' => r' = r ∧ i_Rel (k + 5) u v) v v1) u v1 := by
  have J : i_Rel (k + 5) u v := I
  obtain ⟨N, T, U, B, L, H, W, A, P, E, F, K, rfl, rfl, hT, t⟩ := I
  unfold wpX_balance wpY_balance
  dsimp only
  obtain ⟨r, hX, hY⟩ := cu_bal (U := U) (W := W) (K := K) t hT v1 (N - 1) 1 0 (Nat.le_refl _) (by omega)
  exact ⟨_, hX _ ⟨_, hY _ ⟨rfl, J⟩⟩⟩
theorem i_vc_coins {k : Nat} {u : SX} {v : SY} (I : i_Rel k u v) (hk : k + 5 ≤ 2560) : wpX_coins (fun r => wpY_coins (fun r' => r' = r ∧ i_Rel (k + 5) u v) v) u := by
  have J : i_Rel (k + 5) u v := I
  obtain ⟨N, T, U, B, L, H, W, A, P, E, F, K, rfl, rfl, hT, t⟩ := I
  have h20 := t.1
  unfold wpX_coins wpY_coins
  dsimp only
  rw [cu_cl (j := T) (by omega)]
  refine ⟨cu_vi (by omega), cu_size _ _ ?_⟩
  have e : cu_cnt (fun j => bt (L T) j) (N + (20 - N)) = cu_cnt (fun j => bt (L T) j) N := cu_cnt_hi (20 - N) (fun j h1 h2 => cu_lhi t T hT j (by omega) (by omega))
  rw [show N + (20 - N) = 20 by omega] at e
  rw [e]
  have e0 : cu_cnt (fun j => bt (L T) j) 1 = 0 := by
    show 0 + (bt (L T) 0).toNat = 0
    rw [cu_l0 t T hT]
    rfl
  have g := fun post hp => cu_yCoins (U := U) (W := W) (K := K) t hT post hp (N - 1) 1 (Nat.le_refl _) (by omega)
  rw [e0] at g
  exact ⟨_, g _ ⟨rfl, J⟩⟩
theorem i_vc_meeting {k : Nat} {u : SX} {v : SY} (I : i_Rel k u v) (hk : k + 5 ≤ 2560) (v1 : Int32) (v2 : Int32) : wpX_meeting (fun r => wpY_meeting (fun r' => r' = r ∧ i_Rel (k + 5) u v) v v1 v2) u v1 v2 := by
  have J : i_Rel (k + 5) u v := I
  obtain ⟨N, T, U, B, L, H, W, A, P, E, F, K, rfl, rfl, hT, t⟩ := I
  have h20 := t.1
  unfold wpX_meeting wpY_meeting
  dsimp only
  rcases cu_cb v1 N with ⟨a, ha, rfl⟩ | h
  · refine cu_xBlk_t h20 ha _ (br_f (by decide) ?_)
    rcases cu_cb v2 N with ⟨b, hb, rfl⟩ | h
    · refine cu_xBlk_t h20 hb _ (br_f (by decide) ⟨cu_vi (by omega), cu_vi (by omega), ?_⟩)
      rw [cu_cl (j := a) (by omega), cu_cl (j := b) (by omega)]
      refine cu_grt _ _ ?_
      refine cu_yBlk_t h20 ha _ (br_f (by decide) ?_)
      refine cu_yBlk_t h20 hb _ (br_f (by decide) ?_)
      refine cu_yMeet t ha hb _ ⟨congrArg nI ?_, J⟩
      have e1 : (fun j => bt (B a &&& B b) j) = (fun j => bt (B a) j && bt (B b) j) := funext (fun j => b_and _ _ j)
      rw [e1]
      have e : cu_top (fun j => bt (B a) j && bt (B b) j) (N + (20 - N)) = cu_top (fun j => bt (B a) j && bt (B b) j) N := cu_top_hi (20 - N) (fun j h1 h2 => by
        have z : bt (B a) j = false := cu_nt (fun w => by have := cu_bhi t a ha j (by omega) w; omega)
        rw [z, Bool.false_and])
      rw [show N + (20 - N) = 20 by omega] at e
      exact e.symm
    · refine cu_xBlk_f h20 h _ (br_t rfl ?_)
      refine cu_yBlk_t h20 ha _ (br_f (by decide) ?_)
      exact cu_yBlk_f h20 h _ (br_t rfl ⟨rfl, J⟩)
  · exact cu_xBlk_f h20 h _ (br_t rfl (cu_yBlk_f h20 h _ (br_t rfl ⟨rfl, J⟩)))
theorem i_vc_fewestFor {k : Nat} {u : SX} {v : SY} (I : i_Rel k u v) (hk : k + 5 ≤ 2560) (v1 : Int32) (v2 : Int32) : wpX_fewestFor (fun r => wpY_fewestFor (fun r' v' => r' = r ∧ i_Rel (k + 5) u v') v v1 v2) u v1 v2 := by
  have J : i_Rel (k + 5) u v := I
  obtain ⟨N, T, U, B, L, H, W, A, P, E, F, K, rfl, rfl, hT, t⟩ := I
  have h20 := t.1
  unfold wpX_fewestFor wpY_fewestFor
  dsimp only
  rcases cu_own v1 with h | h
  · refine cu_xOwn_t h.1 h.2.1 _ (br_f (by decide) ?_)
    obtain ⟨r, K', hX, hY⟩ := cu_few (U := U) (W := W) t hT v1 v2 20 0 0 (cu_clr K 20) 0 v2.toInt64 (by omega) (fun j hj => by
      rw [b_0, cu_clr0 K 20 j hj]
      exact ⟨fun z => absurd z (by decide), fun z => absurd rfl z⟩) (b_0 0) (by
      rw [show (fun j => bt 0 j) = (fun _ => false) from funext b_0]
      decide) (by omega) (cu_lz v2)
    refine ⟨_, hX _ (br_f h.1 (br_t h.2.2.2 ⟨21, ?_⟩))⟩
    refine cu_yClr (K := K) v1 v2 _ ⟨_, hY _ ⟨rfl, ?_⟩⟩ 20 0 (by omega)
    exact ⟨N, T, U, B, L, H, W, A, P, E, F, K', rfl, rfl, hT, t⟩
  · refine cu_xOwn_f h _ (br_t rfl ?_)
    rcases h with h | h
    · exact br_t h ⟨rfl, J⟩
    · exact br_f h.1 (br_f h.2.2.2 ⟨rfl, J⟩)
end
section
/-! what is owed: the methods that change the tree -/
theorem i_vc_forget {k : Nat} {u : SX} {v : SY} (I : i_Rel k u v) (hk : k + 5 ≤ 2560) (v1 : Int32) : wpX_forget (fun r u' => wpY_forget (fun r' v' => r' = r ∧ i_Rel (k + 5) u' v') v v1) u v1 := by
  have J : i_Rel (k + 5) u v := I
  obtain ⟨N, T, U, B, L, H, W, A, P, E, F, K, rfl, rfl, hT, t⟩ := I
  have h20 := t.1
  obtain ⟨M, rfl⟩ : ∃ M, N = M + 1 := ⟨N - 1, by omega⟩
  unfold wpX_forget wpY_forget wX_forget_15
  dsimp only
  rw [nI_pred M]
  by_cases e : v1 = nI M
  · subst e
    refine br_t rfl ?_
    rcases Nat.eq_zero_or_pos M with e | h1
    · subst e
      exact br_t rfl (br_t (nI_lt (b := 1) (by omega) (by decide)) ⟨rfl, J⟩)
    · refine br_f (nI_ne0 h1 (by omega)) (br_f (by decide) ?_)
      have hY : ¬ nI M < 1 := nI_nlt (b := 1) (by omega) (by omega)
      by_cases e : M = T
      · subst e
        exact br_t rfl (br_f hY (br_t rfl (br_t rfl ⟨rfl, J⟩)))
      · have hz : ¬ nI M = nI T := fun z => e ((cu_neq (by omega) (by omega)).mp z)
        refine br_f hz (nm_e (br_f hY (br_t rfl (br_f hz (nm_e ⟨rfl, ?_⟩)))))
        exact ⟨M, T, U, B, L, H, W, A, P, E, F, K, rfl, rfl, by omega, cu_less t (by omega)⟩
  · refine br_f e (br_c (fun _ => ?_) (fun _ => br_t rfl ?_))
    · exact br_c (fun _ => ⟨rfl, J⟩) (fun _ => br_f e ⟨rfl, J⟩)
    · exact br_c (fun _ => ⟨rfl, J⟩) (fun _ => br_f e ⟨rfl, J⟩)
theorem cu_20 {N : Nat} (h : N = 20) : nI N = 20 := by
  subst h
  rfl
theorem cu_n20 {N : Nat} (h : N < 20) : ¬ nI N = 20 := fun z => by
  have := (nI_eq (a := N) (b := 20) (by omega) (by decide)).mp z
  omega
theorem cu_sp0 {j : Nat} (hj : j < 20) : bt 0 j = !(decide (¬ (-1 : Int32) = nI j) && decide (¬ (-1 : Int32) = nI j)) := by
  rw [b_0, decide_eq_true (cu_m1n j hj)]
  rfl
theorem i_vc_mint {k : Nat} {u : SX} {v : SY} (I : i_Rel k u v) (hk : k + 5 ≤ 2560) (v1 : Int32) (v2 : Int32) (v3 : Int32) : wpX_mint (fun r u' => wpY_mint (fun r' v' => r' = r ∧ i_Rel (k + 5) u' v') v v1 v2 v3) u v1 v2 v3 := by
  have J : i_Rel (k + 5) u v := I
  obtain ⟨N, T, U, B, L, H, W, A, P, E, F, K, rfl, rfl, hT, t⟩ := I
  have h20 := t.1
  unfold wpX_mint wpY_mint
  dsimp only
  by_cases hN : N = 20
  · exact cu_xFull_t hN _ (br_f (by decide) (br_t (cu_20 hN) ⟨rfl, J⟩))
  · have hN : N < 20 := by omega
    have n20 := cu_n20 hN
    refine cu_xFull_f hN _ (br_t rfl ?_)
    rcases cu_cb v1 N with ⟨p, hp, rfl⟩ | h
    · refine cu_xBlk_t h20 hp _ (br_f (by decide) ?_)
      rcases cu_own v2 with h | h
      · refine cu_xOwn_t h.1 h.2.1 _ (br_f (by decide) ?_)
        by_cases a1 : v3 < 1
        · refine br_t a1 (br_f n20 ?_)
          exact cu_yBlk_t h20 hp _ (br_f (by decide) (br_f h.1 (br_f h.2.2.1 (br_t a1 ⟨rfl, J⟩))))
        · by_cases a2 : v3 ≤ 100
          · refine br_f a1 (br_t a2 ?_)
            have ha : ∃ n, v3 = nI n ∧ 1 ≤ n ∧ n ≤ 100 * 2 ^ N := by
              have a0 : ¬ v3 < 0 := fun z => a1 (Int32.lt_trans z (by decide))
              obtain ⟨n, hn, rfl⟩ := nI_of a0
              refine ⟨n, rfl, ?_, ?_⟩
              · rcases Nat.eq_zero_or_pos n with e | e
                · subst e
                  exact absurd (nI_lt (a := 0) (b := 1) (by omega) (by decide)) a1
                · exact e
              · have g := (nI_leI (a := n) (b := 100) hn (by decide)).mp a2
                have g2 : 1 ≤ 2 ^ N := Nat.one_le_two_pow
                omega
            obtain ⟨u', v', R, hX, hY⟩ := cu_both (U := U) (W := W) (K := K) t hN hp hT v2 (a := v3) (s := 0) (e := -1) (f := -1) (fun j hj => cu_sp0 hj) (Or.inl rfl) (Or.inl rfl) ha
            refine hX _ ?_
            refine br_f n20 ?_
            refine cu_yBlk_t h20 hp _ (br_f (by decide) (br_f h.1 (br_f h.2.2.1 (br_f a1 (br_t a2 ?_)))))
            exact hY _ ⟨rfl, R⟩
          · refine br_f a1 (br_f a2 (br_f n20 ?_))
            exact cu_yBlk_t h20 hp _ (br_f (by decide) (br_f h.1 (br_f h.2.2.1 (br_f a1 (br_f a2 ⟨rfl, J⟩)))))
      · refine cu_xOwn_f h _ (br_t rfl (br_f n20 ?_))
        refine cu_yBlk_t h20 hp _ (br_f (by decide) ?_)
        rcases h with h | h
        · exact br_t h ⟨rfl, J⟩
        · exact br_f h.1 (br_t h.2.2.1 ⟨rfl, J⟩)
    · exact cu_xBlk_f h20 h _ (br_t rfl (br_f n20 (cu_yBlk_f h20 h _ (br_t rfl ⟨rfl, J⟩))))
/-- the amount of a block that spends: no more than twice what the last one may have -/
theorem cu_pow {c N a : Nat} (h : c < N) (ha : a ≤ 100 * 2 ^ c) : 2 * a ≤ 100 * 2 ^ N := by
  have e : 2 ^ (c + 1) ≤ 2 ^ N := Nat.pow_le_pow_right (by decide) h
  have e2 : 2 ^ (c + 1) = 2 ^ c * 2 := Nat.pow_succ 2 c
  omega
theorem cu_sp1 {c j : Nat} (hc : c < 20) (hj : j < 20) : bt ((1 : Int32) <<< (nI c &&& 31)) j = !(decide (¬ nI c = nI j) && decide (¬ (-1 : Int32) = nI j)) := by
  rw [cu_shl hc hj, decide_eq_true (cu_m1n j hj), Bool.and_true]
  by_cases e : j = c
  · subst e
    rw [decide_eq_true (rfl : j = j), decide_eq_false (fun z : ¬ nI j = nI j => z rfl)]
    rfl
  · have hz : ¬ nI c = nI j := fun z => e ((cu_neq hc hj).mp z).symm
    rw [decide_eq_false e, decide_eq_true hz]
    rfl
theorem cu_sp2 {c d j : Nat} (hc : c < 20) (hd : d < 20) (hj : j < 20) : bt (((1 : Int32) <<< (nI c &&& 31)) ||| ((1 : Int32) <<< (nI d &&& 31))) j = !(decide (¬ nI c = nI j) && decide (¬ nI d = nI j)) := by
  have h : ∀ c, c < 20 → bt ((1 : Int32) <<< (nI c &&& 31)) j = !decide (¬ nI c = nI j) := fun c hc => by
    rw [cu_sp1 hc hj, decide_eq_true (cu_m1n j hj), Bool.and_true]
  rw [b_or, h c hc, h d hd, Bool.not_and]
theorem i_vc_pay {k : Nat} {u : SX} {v : SY} (I : i_Rel k u v) (hk : k + 5 ≤ 2560) (v1 : Int32) (v2 : Int32) (v3 : Int32) (v4 : Int32) : wpX_pay (fun r u' => wpY_pay (fun r' v' => r' = r ∧ i_Rel (k + 5) u' v') v v1 v2 v3 v4) u v1 v2 v3 v4 := by
  have J : i_Rel (k + 5) u v := I
  obtain ⟨N, T, U, B, L, H, W, A, P, E, F, K, rfl, rfl, hT, t⟩ := I
  have h20 := t.1
  unfold wpX_pay wpY_pay
  dsimp only
  by_cases hN : N = 20
  · exact cu_xFull_t hN _ (br_f (by decide) (br_t (cu_20 hN) ⟨rfl, J⟩))
  · have hN : N < 20 := by omega
    have n20 := cu_n20 hN
    refine cu_xFull_f hN _ (br_t rfl ?_)
    rcases cu_cb v1 N with ⟨p, hp, rfl⟩ | h
    · refine cu_xBlk_t h20 hp _ (br_f (by decide) ?_)
      rcases cu_own v2 with h | h
      · refine cu_xOwn_t h.1 h.2.1 _ (br_f (by decide) ?_)
        refine cu_xCan t hp v3 _ (fun c3 => br_f (by decide) ?_) (fun c3 => br_t rfl ?_)
        · have c3' := c3
          obtain ⟨c, hc1, hc, rfl, hcL⟩ := c3'
          obtain ⟨a, ea, ha1, ha2, ha3⟩ := cu_amt t hc1 hc
          by_cases e4 : v4 = -1
          · subst e4
            refine br_t rfl ⟨cu_vi (by omega), ?_⟩
            rw [cu_cl (j := c) (by omega)]
            obtain ⟨u', v', R, hX, hY⟩ := cu_both (U := U) (W := W) (K := K) t hN hp hT v2 (a := A c) (s := (1 : Int32) <<< (nI c &&& 31)) (e := nI c) (f := -1) (fun j hj => cu_sp1 (by omega) hj) (Or.inr ⟨c, hc, rfl⟩) (Or.inl rfl) ⟨a, ea, ha1, by have := cu_pow hc ha3; omega⟩
            refine hX _ ?_
            refine br_f n20 ?_
            refine cu_yBlk_t h20 hp _ (br_f (by decide) (br_f h.1 (br_t h.2.2.2 (br_f (cu_ne1 c (by omega)) ?_))))
            refine cu_yFree t hp (nI c) _ (fun _ => br_f (by decide) (br_t rfl ?_)) (fun z => absurd c3 z)
            unfold wY_pay_68 wY_pay_90
            rw [cu_cl (j := c) (by omega)]
            refine ⟨cu_vi (by omega), br_f (by decide) (nm_r (Int32.add_zero _) ?_)⟩
            exact hY _ ⟨rfl, R⟩
          · refine br_f e4 ?_
            by_cases e34 : v4 = nI c
            · refine br_t e34 (br_f n20 ?_)
              exact cu_yBlk_t h20 hp _ (br_f (by decide) (br_f h.1 (br_t h.2.2.2 (br_t e34.symm ⟨rfl, J⟩))))
            · have e34' : ¬ nI c = v4 := fun z => e34 z.symm
              refine br_f e34 ?_
              refine cu_xCan t hp v4 _ (fun c4 => br_f (by decide) ?_) (fun c4 => br_t rfl ?_)
              · have c4' := c4
                obtain ⟨d, hd1, hd, rfl, hdL⟩ := c4'
                obtain ⟨b, eb, hb1, hb2, hb3⟩ := cu_amt t hd1 hd
                refine ⟨cu_vi (by omega), cu_vi (by omega), ?_⟩
                rw [cu_cl (j := c) (by omega), cu_cl (j := d) (by omega)]
                refine nm_e (nm_e ?_)
                obtain ⟨u', v', R, hX, hY⟩ := cu_both (U := U) (W := W) (K := K) t hN hp hT v2 (a := A c + A d) (s := ((1 : Int32) <<< (nI c &&& 31)) ||| ((1 : Int32) <<< (nI d &&& 31))) (e := nI c) (f := nI d) (fun j hj => cu_sp2 (by omega) (by omega) hj) (Or.inr ⟨c, hc, rfl⟩) (Or.inr ⟨d, hd, rfl⟩) ⟨a + b, by rw [ea, eb, nI_add], by omega, by have := cu_pow hc ha3; have := cu_pow hd hb3; omega⟩
                refine hX _ ?_
                refine br_f n20 ?_
                refine cu_yBlk_t h20 hp _ (br_f (by decide) (br_f h.1 (br_t h.2.2.2 (br_f e34' ?_))))
                refine cu_yFree t hp (nI c) _ (fun _ => br_f (by decide) (br_f e4 ?_)) (fun z => absurd c3 z)
                refine cu_yFree t hp (nI d) _ (fun _ => br_f (by decide) ?_) (fun z => absurd c4 z)
                unfold wY_pay_68 wY_pay_90
                rw [cu_cl (j := c) (by omega), cu_cl (j := d) (by omega)]
                refine ⟨cu_vi (by omega), br_t (nI_pos' (by omega)) ⟨cu_vi (by omega), nm_e ?_⟩⟩
                exact hY _ ⟨rfl, R⟩
              · refine br_f n20 ?_
                refine cu_yBlk_t h20 hp _ (br_f (by decide) (br_f h.1 (br_t h.2.2.2 (br_f e34' ?_))))
                refine cu_yFree t hp (nI c) _ (fun _ => br_f (by decide) (br_f e4 ?_)) (fun z => absurd c3 z)
                exact cu_yFree t hp v4 _ (fun z => absurd z c4) (fun _ => br_t rfl ⟨rfl, J⟩)
        · refine br_f n20 ?_
          refine cu_yBlk_t h20 hp _ (br_f (by decide) (br_f h.1 (br_t h.2.2.2 (br_c (fun _ => ⟨rfl, J⟩) (fun _ => ?_)))))
          exact cu_yFree t hp v3 _ (fun z => absurd z c3) (fun _ => br_t rfl ⟨rfl, J⟩)
      · refine cu_xOwn_f h _ (br_t rfl (br_f n20 ?_))
        refine cu_yBlk_t h20 hp _ (br_f (by decide) ?_)
        rcases h with h | h
        · exact br_t h ⟨rfl, J⟩
        · exact br_f h.1 (br_f h.2.2.2 ⟨rfl, J⟩)
    · exact cu_xBlk_f h20 h _ (br_t rfl (br_f n20 (cu_yBlk_f h20 h _ (br_t rfl ⟨rfl, J⟩))))
end
