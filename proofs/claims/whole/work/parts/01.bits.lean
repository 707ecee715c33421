/-! rows pasted from kit/rows: stores, nI, branches by naturals; Int32 by its bits -/
theorem pk_us {f : Nat → Int32} {k : Nat} {x : Int32} : upd f k x k = x := if_pos rfl
theorem pk_un {f : Nat → Int32} {k j : Nat} {x : Int32} (h : j ≠ k) : upd f k x j = f j := if_neg h
theorem pk_sub {a b : Nat} (h : b ≤ a) : nI a - nI b = nI (a - b) := by
  obtain ⟨c, rfl⟩ : ∃ c, a = c + b := ⟨a - b, by omega⟩
  rw [← nI_add, Int32.add_sub_cancel, Nat.add_sub_cancel]
theorem pk_m1 (n : Nat) : nI (n + 1) + (-1) = nI n := by
  rw [← nI_1, Int32.add_assoc, show (1 : Int32) + (-1) = 0 from rfl, Int32.add_zero]
theorem pk_ix (x : Int32) {n : Nat} (hn : n < 2 ^ 31) : x < 0 ∨ nI n ≤ x ∨ ∃ j : Nat, j < n ∧ x = nI j := by
  by_cases h : x < 0
  · exact Or.inl h
  · obtain ⟨j, hj, rfl⟩ := nI_of h
    by_cases h2 : j < n
    · exact Or.inr (Or.inr ⟨j, h2, rfl⟩)
    · exact Or.inr (Or.inl (nI_le (by omega) hj))
theorem pk_le {x y : Int32} {A B : Prop} (a b : Nat) (f : a ≤ b → A) (g : b < a → B) (hx : x = nI a := by rfl) (hy : y = nI b := by rfl) (ha : a < 2 ^ 31 := by omega) (hb : b < 2 ^ 31 := by omega) : (x ≤ y → A) ∧ (¬ x ≤ y → B) := by
  subst hx hy
  rw [nI_leI ha hb]
  exact ⟨f, fun z => g (by omega)⟩
theorem pk_lt {x y : Int32} {A B : Prop} (a b : Nat) (f : a < b → A) (g : b ≤ a → B) (hx : x = nI a := by rfl) (hy : y = nI b := by rfl) (ha : a < 2 ^ 31 := by omega) (hb : b < 2 ^ 31 := by omega) : (x < y → A) ∧ (¬ x < y → B) := by
  subst hx hy
  rw [nI_ltI ha hb]
  exact ⟨f, fun z => g (by omega)⟩
theorem pk_eq {x y : Int32} {A B : Prop} (a b : Nat) (f : a = b → A) (g : a ≠ b → B) (hx : x = nI a := by rfl) (hy : y = nI b := by rfl) (ha : a < 2 ^ 31 := by omega) (hb : b < 2 ^ 31 := by omega) : (x = y → A) ∧ (¬ x = y → B) := by
  subst hx hy
  rw [nI_eq ha hb]
  exact ⟨f, g⟩
theorem pk_in {x : Int32} (n N : Nat) (h : n < N) (hx : x = nI n := by rfl) (hN : N < 2 ^ 31 := by omega) : vp_in x N := by
  subst hx
  exact vp_in_nI h hN
theorem pk_cl {x : Int32} (n : Nat) (hx : x = nI n := by rfl) (h : n < 2 ^ 31 := by omega) : x.toNatClampNeg = n := by
  subst hx
  exact nI_clamp h
def bt (x : Int32) (i : Nat) : Bool := x.toBitVec.getLsbD i
theorem b_ext {x y : Int32} (h : ∀ i, i < 32 → bt x i = bt y i) : x = y := Int32.toBitVec_inj.mp (BitVec.eq_of_getLsbD_eq (fun i hi => h i hi))
theorem b_or (x y : Int32) (i : Nat) : bt (x ||| y) i = (bt x i || bt y i) := by unfold bt; rw [Int32.toBitVec_or, BitVec.getLsbD_or]
theorem b_and (x y : Int32) (i : Nat) : bt (x &&& y) i = (bt x i && bt y i) := by unfold bt; rw [Int32.toBitVec_and, BitVec.getLsbD_and]
theorem b_xor (x y : Int32) (i : Nat) : bt (x ^^^ y) i = (bt x i ^^ bt y i) := by unfold bt; rw [Int32.toBitVec_xor, BitVec.getLsbD_xor]
theorem b_big {x : Int32} {i : Nat} (h : 32 ≤ i) : bt x i = false := BitVec.getLsbD_of_ge _ _ h
theorem b_m1 : ∀ i, i < 32 → bt (-1) i = true := by decide +kernel
theorem b_0 (i : Nat) : bt 0 i = false := BitVec.getLsbD_zero
theorem s_l : ∀ n, n < 32 → ((nI n &&& 31).toBitVec.smod 32).toNat = n := by decide +kernel
theorem b_shl (n : Nat) (hn : n < 32) (x : Int32) {i : Nat} (hi : i < 32) : bt (x <<< (nI n &&& 31)) i = (decide (n ≤ i) && bt x (i - n)) := by
  unfold bt
  rw [Int32.toBitVec_shiftLeft]
  show (x.toBitVec <<< ((nI n &&& 31).toBitVec.smod 32).toNat).getLsbD i = _
  rw [s_l n hn, BitVec.getLsbD_shiftLeft]
  rcases Nat.lt_or_ge i n with h | h
  · simp [h, Nat.not_le.mpr h]
  · simp [hi, h, Nat.not_lt.mpr h]
theorem b_sshr (n : Nat) (hn : n < 32) (x : Int32) {i : Nat} (hi : i < 32) : bt (x >>> (nI n &&& 31)) i = if n + i < 32 then bt x (n + i) else bt x 31 := by
  unfold bt
  rw [Int32.toBitVec_shiftRight]
  show (x.toBitVec.sshiftRight ((nI n &&& 31).toBitVec.smod 32).toNat).getLsbD i = _
  rw [s_l n hn, BitVec.getLsbD_sshiftRight, BitVec.msb_eq_getLsbD_last]
  simp [hi]
/-! own rows on bits -/
theorem cu_b1 : ∀ i, i < 32 → bt 1 i = decide (i = 0) := by decide +kernel
theorem cu_bit (x : Int32) {n : Nat} (hn : n < 20) : ((x >>> (nI n &&& 31)) &&& 1) = nI (bt x n).toNat := by
  apply b_ext
  intro i hi
  rw [b_and, b_sshr n (by omega) x hi, cu_b1 i hi]
  by_cases e : i = 0
  · subst e
    rw [if_pos (by omega), Nat.add_zero]
    generalize bt x n = z
    cases z <;> decide +kernel
  · rw [decide_eq_false e, Bool.and_false]
    generalize bt x n = z
    cases z
    · exact (b_0 i).symm
    · have h := cu_b1 i hi
      rw [decide_eq_false e] at h
      exact h.symm
theorem cu_shl {n j : Nat} (hn : n < 20) (hj : j < 20) : bt ((1 : Int32) <<< (nI n &&& 31)) j = decide (j = n) := by
  rw [b_shl n (by omega) 1 (by omega), cu_b1 (j - n) (by omega)]
  by_cases e : j = n
  · rw [decide_eq_true e, decide_eq_true (by omega : n ≤ j), decide_eq_true (by omega : j - n = 0)]
    rfl
  · rw [decide_eq_false e]
    by_cases h : n ≤ j
    · rw [decide_eq_false (by omega : ¬ j - n = 0), Bool.and_false]
    · rw [decide_eq_false h, Bool.false_and]
theorem cu_not (x : Int32) {j : Nat} (hj : j < 20) : bt (x ^^^ (-1)) j = !bt x j := by
  rw [b_xor, b_m1 j (by omega)]
  cases bt x j <;> rfl
theorem cu_nt {x : Bool} (h : ¬ x = true) : x = false := by
  cases x
  · rfl
  · exact absurd rfl h
theorem cu_tf {x : Bool} (h : x = true) (g : x = false) : False := by
  rw [h] at g
  exact absurd g (by decide)
theorem cu_ne1 : ∀ c, c < 20 → ¬ nI c = -1 := by decide +kernel
theorem cu_m1n : ∀ c, c < 20 → ¬ (-1 : Int32) = nI c := by decide +kernel
theorem cu_neq {a b : Nat} (ha : a < 20) (hb : b < 20) : nI a = nI b ↔ a = b := nI_eq (by omega) (by omega)
/-! the long that is left, and the sum -/
theorem cu_lle (x : Int32) {s : Nat} (hs : s < 2 ^ 31) {l : Int64} (hl : l.toInt = x.toInt - (s : Int)) : l ≤ 0 ↔ ¬ nI s < x := by
  rw [Int64.le_iff_toInt_le, Int32.lt_iff_toInt_lt, nI_toInt hs, hl, show (0 : Int64).toInt = 0 from by decide]
  omega
theorem cu_lsub (x : Int32) {s a : Nat} (hs : s < 2 ^ 31) (ha : a < 2 ^ 31) {l : Int64} (hl : l.toInt = x.toInt - (s : Int)) : (l - (nI a).toInt64).toInt = x.toInt - ((s + a : Nat) : Int) := by
  rw [Int64.toInt_sub, nI_l ha, lN_toInt ha, hl]
  have h1 := Int32.le_toInt x
  have h2 := Int32.toInt_lt x
  generalize x.toInt = z at h1 h2 ⊢
  rw [Int.bmod_eq_of_le (by omega) (by omega)]
  omega
theorem cu_lz (x : Int32) : x.toInt64.toInt = x.toInt - ((0 : Nat) : Int) := by
  rw [Int32.toInt_toInt64]
  omega
