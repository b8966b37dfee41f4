/-! sets of variables, powers of two, the truth of a formula -/
theorem sv_m : ∀ n, n < 6 → ∀ i, i < 32 → bt ((((1 : Int32) <<< (nI n &&& 31)) - 1) ^^^ (-1)) i = decide (n ≤ i) := by decide +kernel
theorem sv_in {n : Nat} (hn : n < 6) (x : Int32) : (x.toUInt32 >>> ((nI n).toUInt32 &&& Int32.toUInt32 31)).toInt32 = 0 ↔ x &&& ((((1 : Int32) <<< (nI n &&& 31)) - 1) ^^^ (-1)) = 0 := by
  constructor
  · intro h
    apply b_ext
    intro i hi
    rw [b_and, sv_m n hn i hi, b_0]
    by_cases c : n ≤ i
    · have e := b_ushr n (by omega) x (i - n)
      rw [h, b_0, show n + (i - n) = i by omega] at e
      rw [← e]
      rfl
    · rw [decide_eq_false c, Bool.and_false]
  · intro h
    apply b_ext
    intro i hi
    rw [b_ushr n (by omega), b_0]
    by_cases c : n + i < 32
    · have e := b_and x ((((1 : Int32) <<< (nI n &&& 31)) - 1) ^^^ (-1)) (n + i)
      rw [h, b_0, sv_m n hn (n + i) c, decide_eq_true (by omega), Bool.and_true] at e
      exact e.symm
    · exact b_big (by omega)
theorem sv_p : ∀ n, n < 6 → (1 : Int32) <<< (nI n &&& 31) = nI (2 ^ n) := by decide +kernel
theorem sv_2 : ∀ n, n < 6 → 2 ^ n ≤ 32 := by decide
/-- the bit i of the assignment x, as the reference takes it -/
theorem sv_b {x i : Nat} (hx : x < 32) (hi : i < 32) : (nI x >>> (nI i &&& 31)) &&& 1 = nI (x / 2 ^ i % 2) := by
  rw [pk_shrN (by omega) _ i (s_l i hi)]
  have h : x / 2 ^ i ≤ x := Nat.div_le_self _ _
  exact pk_andN (by omega) 1 (by decide)
/-- a clause at k fails at x -/
def tr_n (pos neg : Nat → Int32) (b : Nat) (x : Int32) (k : Nat) : Prop := x &&& pos (b + k) = 0 ∧ (x ^^^ (-1)) &&& neg (b + k) = 0
def tr_F (pos neg : Nat → Int32) (b : Nat) (x : Int32) (k : Nat) : Prop := ∀ i, i < k → ¬ tr_n pos neg b x i
noncomputable def tr_v (pos neg : Nat → Int32) (b : Nat) (x : Int32) (k : Nat) : Nat := by
  classical exact if tr_F pos neg b x k then 1 else 0
theorem tr_F0 (pos neg : Nat → Int32) (b : Nat) (x : Int32) : tr_F pos neg b x 0 := fun i h => absurd h (by omega)
theorem tr_Fs {pos neg : Nat → Int32} {b : Nat} {x : Int32} {k : Nat} (h : tr_F pos neg b x k) (g : ¬ tr_n pos neg b x k) : tr_F pos neg b x (k + 1) := by
  intro i hi
  by_cases e : i = k
  · rw [e]; exact g
  · exact h i (by omega)
theorem tr_v1 {pos neg : Nat → Int32} {b : Nat} {x : Int32} {k : Nat} (h : tr_F pos neg b x k) : tr_v pos neg b x k = 1 := if_pos h
theorem tr_v0 {pos neg : Nat → Int32} {b : Nat} {x : Int32} {k : Nat} (h : ¬ tr_F pos neg b x k) : tr_v pos neg b x k = 0 := if_neg h
theorem tr_vr (pos neg : Nat → Int32) (b : Nat) (x : Int32) (k : Nat) : tr_v pos neg b x k = 0 ∨ tr_v pos neg b x k = 1 := by
  by_cases h : tr_F pos neg b x k
  · exact Or.inr (tr_v1 h)
  · exact Or.inl (tr_v0 h)
theorem tr_no {pos neg : Nat → Int32} {b : Nat} {x : Int32} {k c : Nat} (hk : k < c) (g : tr_n pos neg b x k) : tr_v pos neg b x c = 0 := tr_v0 (fun h => h k hk g)
