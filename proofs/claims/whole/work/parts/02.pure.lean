/-! the multilinear extension, over the integers -/
def ml_f (h : Nat → Int) (z : Int) (j : Nat) : Int := h (2 * j) + (h (2 * j + 1) - h (2 * j)) * z
/-- the table after m challenges -/
def ml_E (h r : Nat → Int) : Nat → Nat → Int
  | 0 => h
  | m + 1 => ml_f (ml_E h r m) (r m)
def ml_b (z : Nat → Int) (x i : Nat) : Int := if x / 2 ^ i % 2 = 1 then z i else 1 - z i
/-- the weight of the assignment x, by the first i variables -/
def ml_p (z : Nat → Int) (x : Nat) : Nat → Int
  | 0 => 1
  | i + 1 => ml_p z x i * ml_b z x i
def ml_s (f : Nat → Int) : Nat → Int
  | 0 => 0
  | n + 1 => ml_s f n + f n
theorem ml_s_e {f g : Nat → Int} : ∀ n : Nat, (∀ i, i < n → f i = g i) → ml_s f n = ml_s g n := by
  intro n
  induction n with
  | zero => intro _; rfl
  | succ n ih =>
    intro h
    show ml_s f n + f n = ml_s g n + g n
    rw [ih (fun i hi => h i (by omega)), h n (by omega)]
theorem ml_s_2 (f : Nat → Int) : ∀ n : Nat, ml_s f (2 * n) = ml_s (fun j => f (2 * j) + f (2 * j + 1)) n := by
  intro n
  induction n with
  | zero => rfl
  | succ n ih =>
    have e : 2 * (n + 1) = 2 * n + 1 + 1 := by omega
    rw [e]
    show ml_s f (2 * n) + f (2 * n) + f (2 * n + 1) = ml_s (fun j => f (2 * j) + f (2 * j + 1)) n + (f (2 * n) + f (2 * n + 1))
    rw [ih, Int.add_assoc]
theorem ml_bit (x i : Nat) : x / 2 ^ (i + 1) % 2 = x / 2 / 2 ^ i % 2 := by
  rw [Nat.div_div_eq_div_mul, Nat.pow_succ, Nat.mul_comm]
theorem ml_b_s (z : Nat → Int) (x i : Nat) : ml_b z x (i + 1) = ml_b (fun k => z (k + 1)) (x / 2) i := by
  unfold ml_b
  rw [ml_bit]
theorem ml_p_s (z : Nat → Int) (x : Nat) : ∀ d : Nat, ml_p z x (d + 1) = ml_b z x 0 * ml_p (fun k => z (k + 1)) (x / 2) d := by
  intro d
  induction d with
  | zero =>
    show 1 * ml_b z x 0 = ml_b z x 0 * 1
    rw [Int.one_mul, Int.mul_one]
  | succ d ih =>
    show ml_p z x (d + 1) * ml_b z x (d + 1) = ml_b z x 0 * (ml_p (fun k => z (k + 1)) (x / 2) d * ml_b (fun k => z (k + 1)) (x / 2) d)
    rw [ih, ml_b_s, Int.mul_assoc]
theorem ml_b_e (z : Nat → Int) (j : Nat) : ml_b z (2 * j) 0 = 1 - z 0 := by
  unfold ml_b
  rw [if_neg (by rw [Nat.pow_zero]; omega)]
theorem ml_b_o (z : Nat → Int) (j : Nat) : ml_b z (2 * j + 1) 0 = z 0 := by
  unfold ml_b
  rw [if_pos (by rw [Nat.pow_zero]; omega)]
theorem ml_alg (a b z p : Int) : a * ((1 - z) * p) + b * (z * p) = (a + (b - a) * z) * p := by grind
theorem ml_step (h z : Nat → Int) (d : Nat) : ml_s (fun x => h x * ml_p z x (d + 1)) (2 ^ (d + 1)) = ml_s (fun j => ml_f h (z 0) j * ml_p (fun k => z (k + 1)) j d) (2 ^ d) := by
  have e : 2 ^ (d + 1) = 2 * 2 ^ d := by rw [Nat.pow_succ, Nat.mul_comm]
  rw [e, ml_s_2]
  apply ml_s_e
  intro j _
  have e0 : 2 * j / 2 = j := by omega
  have e1 : (2 * j + 1) / 2 = j := by omega
  show h (2 * j) * ml_p z (2 * j) (d + 1) + h (2 * j + 1) * ml_p z (2 * j + 1) (d + 1) = ml_f h (z 0) j * ml_p (fun k => z (k + 1)) j d
  rw [ml_p_s, ml_p_s, e0, e1, ml_b_e, ml_b_o, ml_alg]
  rfl
theorem ml_E_s (h r : Nat → Int) : ∀ m : Nat, ml_E (ml_f h (r 0)) (fun k => r (k + 1)) m = ml_E h r (m + 1) := by
  intro m
  induction m with
  | zero => rfl
  | succ m ih =>
    show ml_f (ml_E (ml_f h (r 0)) (fun k => r (k + 1)) m) (r (m + 1)) = ml_f (ml_E h r (m + 1)) (r (m + 1))
    rw [ih]
/-- the sum over the assignments is the table's last entry -/
theorem ml_at : ∀ (d : Nat) (h z : Nat → Int), ml_s (fun x => h x * ml_p z x d) (2 ^ d) = ml_E h z d 0 := by
  intro d
  induction d with
  | zero =>
    intro h z
    show 0 + h 0 * 1 = h 0
    rw [Int.zero_add, Int.mul_one]
  | succ d ih =>
    intro h z
    rw [ml_step, ih, ml_E_s]
theorem ml_E_c (h : Nat → Int) {r z : Nat → Int} : ∀ m : Nat, (∀ i, i < m → z i = r i) → ml_E h z m = ml_E h r m := by
  intro m
  induction m with
  | zero => intro _; rfl
  | succ m ih =>
    intro e
    show ml_f (ml_E h z m) (z m) = ml_f (ml_E h r m) (r m)
    rw [ih (fun i hi => e i (by omega)), e m (by omega)]
theorem ml_E_h {h h' : Nat → Int} (r : Nat → Int) : ∀ (m d : Nat), (∀ i, i < 2 ^ (m + d) → h i = h' i) → ∀ j, j < 2 ^ d → ml_E h r m j = ml_E h' r m j := by
  intro m
  induction m with
  | zero =>
    intro d e j hj
    exact e j (by rw [Nat.zero_add]; exact hj)
  | succ m ih =>
    intro d e j hj
    have e2 : 2 ^ (d + 1) = 2 * 2 ^ d := by rw [Nat.pow_succ, Nat.mul_comm]
    have H := ih (d + 1) (fun i hi => e i (by rw [show m + 1 + d = m + (d + 1) by omega]; exact hi))
    show ml_f (ml_E h r m) (r m) j = ml_f (ml_E h' r m) (r m) j
    unfold ml_f
    rw [H (2 * j) (by omega), H (2 * j + 1) (by omega)]
/-- bits in the place of the free variables pick an entry -/
theorem ml_E_b (h z : Nat → Int) (m q : Nat) : ∀ k : Nat, (∀ i, i < k → z (m + i) = ((q / 2 ^ i % 2 : Nat) : Int)) → ∀ j, ml_E h z (m + k) j = ml_E h z m (j * 2 ^ k + q % 2 ^ k) := by
  intro k
  induction k with
  | zero =>
    intro _ j
    rw [Nat.pow_zero, Nat.mod_one, Nat.mul_one]
    rfl
  | succ k ih =>
    intro e j
    have H := ih (fun i hi => e i (by omega))
    show ml_f (ml_E h z (m + k)) (z (m + k)) j = _
    unfold ml_f
    rw [H, H, e k (by omega), Nat.mod_pow_succ, Nat.pow_succ]
    have hb : q / 2 ^ k % 2 = 0 ∨ q / 2 ^ k % 2 = 1 := by omega
    rcases hb with hb | hb
    · rw [hb]
      have e1 : j * (2 ^ k * 2) + (q % 2 ^ k + 2 ^ k * 0) = 2 * j * 2 ^ k + q % 2 ^ k := by
        rw [Nat.mul_zero, Nat.add_zero, Nat.mul_comm (2 ^ k) 2, ← Nat.mul_assoc, Nat.mul_comm j 2]
      rw [e1]
      simp
    · rw [hb]
      have e1 : j * (2 ^ k * 2) + (q % 2 ^ k + 2 ^ k * 1) = (2 * j + 1) * 2 ^ k + q % 2 ^ k := by
        rw [Nat.add_mul, Nat.one_mul, Nat.mul_one, Nat.mul_comm (2 ^ k) 2, ← Nat.mul_assoc, Nat.mul_comm j 2]
        omega
      rw [e1]
      simp
      omega
/-- what the reference sets its places to in the round after m challenges -/
def ml_z (r : Nat → Int) (m : Nat) (t : Int) (q i : Nat) : Int := if i < m then r i else if i = m then t else ((q / 2 ^ (i - m - 1) % 2 : Nat) : Int)
theorem ml_g (h r : Nat → Int) (m d : Nat) (t : Int) {q : Nat} (hq : q < 2 ^ d) : ml_E h (ml_z r m t q) (m + 1 + d) 0 = ml_f (ml_E h r m) t q := by
  rw [ml_E_b h (ml_z r m t q) (m + 1) q d, Nat.zero_mul, Nat.zero_add, Nat.mod_eq_of_lt hq]
  · show ml_f (ml_E h (ml_z r m t q) m) (ml_z r m t q m) q = _
    have e : ml_z r m t q m = t := by
      unfold ml_z
      rw [if_neg (by omega), if_pos rfl]
    rw [e, ml_E_c h (r := r) m]
    intro i hi
    unfold ml_z
    rw [if_pos hi]
  · intro i _
    unfold ml_z
    rw [if_neg (by omega), if_neg (by omega), show m + 1 + i - m - 1 = i by omega]
/-- Newton's form and Lagrange's differ by a multiple of the modulus -/
theorem ml_poly (a b c r : Int) : (a + (b - a) * r + ((c - b) - (b - a)) * (r * (r - 1) * 1073741824)) = (a * ((r - 1) * (r - 2)) * 1073741824 - b * (r * (r - 2)) + c * (r * (r - 1)) * 1073741824) + 2147483647 * (a * (r - 1) - b * (r * (r - 1))) := by grind
theorem ml_polyc (a b c r : Int) : fd_c (a + (b - a) * r + ((c - b) - (b - a)) * (r * (r - 1) * 1073741824)) = fd_c (a * ((r - 1) * (r - 2)) * 1073741824 - b * (r * (r - 2)) + c * (r * (r - 1)) * 1073741824) := by
  apply fd_eq
  rw [ml_poly]
  exact Int.add_mul_emod_self_left _ _ _
