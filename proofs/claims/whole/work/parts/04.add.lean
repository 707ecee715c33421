/-! the relation of the two states, and a new block on both sides -/
def cu_Rel (u : SX) (v : SY) : Prop :=
  ∃ (N T : Nat) (U : Int32) (B L H W A P E F K : Nat → Int32),
    u = (nI N, nI T, U, B, L, H, W, A) ∧ v = (nI N, nI T, U, P, W, A, E, F, K) ∧ T < N ∧ cu_Tree B L H A P E F N
section
variable {N T : Nat} {U : Int32} {B L H W A P E F K : Nat → Int32}
theorem cu_yAdd {p : Nat} (hN : N < 20) (hT : T < N) (o a e f : Int32) (post : Int32 → SY → Prop)
    {B' L' H' W' A' P' E' F' : Nat → Int32} (t' : cu_Tree B' L' H' A' P' E' F' (N + 1))
    (eP : P' = upd P N (nI p)) (eW : W' = upd W N o) (eA : A' = upd A N a) (eE : E' = upd E N e) (eF : F' = upd F N f)
    (h1 : H' T < H' N → post (nI N) (nI (N + 1), nI N, H' T - H' (cu_top (fun j => bt (B' T) j && bt (B' N) j) (N + 1)), P', W', A', E', F', K))
    (h2 : ¬ H' T < H' N → post (nI N) (nI (N + 1), nI T, U, P', W', A', E', F', K)) : wpY_addBlock post (nI N, nI T, U, P, W, A, E, F, K) (nI p) o a e f := by
  subst eP eW eA eE eF
  unfold wpY_addBlock
  dsimp only
  rw [cu_cl hN, nI_1 N]
  have iN := cu_vi hN
  refine ⟨iN, nm_e ⟨iN, nm_e ⟨iN, nm_e ⟨iN, nm_e ⟨iN, nm_e (nm_e ?_)⟩⟩⟩⟩⟩
  rw [nI_pred N]
  refine cu_yHgt t' (by omega) _ ?_
  refine cu_yHgt t' (by omega) _ ?_
  refine br_c (fun h => h2 (Int32.not_lt.mpr h)) (fun h => ?_)
  have hl : H' T < H' N := Int32.not_le.mp h
  refine cu_yMeet t' (by omega) (by omega) _ ?_
  refine cu_yHgt t' (by omega) _ ?_
  have hm := (cu_top_spec (f := fun j => bt (B' T) j && bt (B' N) j) (by rw [cu_b0 t' T (by omega), cu_b0 t' N (by omega)]; rfl) (N + 1) (by omega)).2.1
  refine cu_yHgt t' hm _ ?_
  exact nm_e (nm_e (h1 hl))
theorem cu_new (t : cu_Tree B L H A P E F N) (hN : N < 20) {p : Nat} (hp : p < N) {a s e f : Int32}
    (hs : ∀ j, j < 20 → bt s j = !(decide (¬ e = nI j) && decide (¬ f = nI j)))
    (he : e = -1 ∨ ∃ c, c < N ∧ e = nI c) (hf : f = -1 ∨ ∃ c, c < N ∧ f = nI c)
    (ha : ∃ n, a = nI n ∧ 1 ≤ n ∧ n ≤ 100 * 2 ^ N) :
    cu_Tree (upd B N (B p ||| ((1 : Int32) <<< (nI N &&& 31)))) (upd L N ((L p &&& (s ^^^ (-1))) ||| ((1 : Int32) <<< (nI N &&& 31)))) (upd H N (H p + 1)) (upd A N a) (upd P N (nI p)) (upd E N e) (upd F N f) (N + 1) := by
  refine cu_add t hN hp rfl (fun j hj => ?_) (fun j hj => ?_) he hf ha
  · rw [b_or, cu_shl hN hj]
  · rw [b_or, b_and, cu_not s hj, hs j hj, cu_shl hN hj, Bool.not_not]
theorem cu_both (t : cu_Tree B L H A P E F N) (hN : N < 20) {p : Nat} (hp : p < N) (hT : T < N) (o : Int32) {a s e f : Int32}
    (hs : ∀ j, j < 20 → bt s j = !(decide (¬ e = nI j) && decide (¬ f = nI j)))
    (he : e = -1 ∨ ∃ c, c < N ∧ e = nI c) (hf : f = -1 ∨ ∃ c, c < N ∧ f = nI c)
    (ha : ∃ n, a = nI n ∧ 1 ≤ n ∧ n ≤ 100 * 2 ^ N) :
    ∃ (u : SX) (v : SY), cu_Rel u v ∧ (∀ post : Int32 → SX → Prop, post (nI N) u → wpX_addBlock post (nI N, nI T, U, B, L, H, W, A) (nI p) o a s) ∧ (∀ post : Int32 → SY → Prop, post (nI N) v → wpY_addBlock post (nI N, nI T, U, P, W, A, E, F, K) (nI p) o a e f) := by
  have t' := cu_new t hN hp hs he hf ha
  generalize eB : upd B N (B p ||| ((1 : Int32) <<< (nI N &&& 31))) = B' at t'
  generalize eL : upd L N ((L p &&& (s ^^^ (-1))) ||| ((1 : Int32) <<< (nI N &&& 31))) = L' at t'
  generalize eH : upd H N (H p + 1) = H' at t'
  generalize eA : upd A N a = A' at t'
  generalize eP : upd P N (nI p) = P' at t'
  generalize eE : upd E N e = E' at t'
  generalize eF : upd F N f = F' at t'
  by_cases h : H' T < H' N
  · have hsp := cu_top_spec (f := fun j => bt (B' T) j && bt (B' N) j) (by rw [cu_b0 t' T (by omega), cu_b0 t' N (by omega)]; rfl) (N + 1) (by omega)
    obtain ⟨q1, q2, q3⟩ := hsp
    rw [Bool.and_eq_true] at q1
    have hu := cu_und t' (x := T) (y := N) (by omega) (by omega) q1.1 q1.2 (by omega) (fun j hj w1 w2 => q3 j (by have := cu_bhi t' N (by omega) j hj w2; omega) (by rw [w1, w2]; rfl))
    have e1 : cu_cnt (fun j => bt (B' T &&& (B' N ^^^ (-1))) j) 20 = cu_cnt (fun j => bt (B' T) j && !bt (B' N) j) 20 := cu_cnt_congr 20 (fun j hj => by rw [b_and, cu_not _ hj])
    refine ⟨_, _, ⟨N + 1, N, nI (cu_cnt (fun j => bt (B' T &&& (B' N ^^^ (-1))) j) 20), B', L', H', upd W N o, A', P', E', F', K, rfl, rfl, by omega, t'⟩, fun post hpo => ?_, fun post hpo => ?_⟩
    · exact cu_xAdd hN hp hT o a s post eB.symm eL.symm eH.symm rfl eA.symm (fun _ => hpo) (fun z => absurd h z)
    · rw [e1, hu] at hpo
      exact cu_yAdd hN hT o a e f post t' eP.symm rfl eA.symm eE.symm eF.symm (fun _ => hpo) (fun z => absurd h z)
  · refine ⟨_, _, ⟨N + 1, T, U, B', L', H', upd W N o, A', P', E', F', K, rfl, rfl, by omega, t'⟩, fun post hpo => ?_, fun post hpo => ?_⟩
    · exact cu_xAdd hN hp hT o a s post eB.symm eL.symm eH.symm rfl eA.symm (fun z => absurd z h) (fun _ => hpo)
    · exact cu_yAdd hN hT o a e f post t' eP.symm rfl eA.symm eE.symm eF.symm (fun z => absurd z h) (fun _ => hpo)
end
