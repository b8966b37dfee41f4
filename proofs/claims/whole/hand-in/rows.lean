section
/-! rows of kit/rows, as they stand there -/
theorem pk_us {f : Nat → Int32} {k : Nat} {x : Int32} : upd f k x k = x := if_pos rfl
theorem pk_un {f : Nat → Int32} {k j : Nat} {x : Int32} (h : j ≠ k) : upd f k x j = f j := if_neg h
theorem pk_uLs {f : Nat → Int64} {k : Nat} {x : Int64} : vp_updL f k x k = x := if_pos rfl
theorem pk_uLn {f : Nat → Int64} {k j : Nat} {x : Int64} (h : j ≠ k) : vp_updL f k x j = f j := if_neg h
theorem pk_sub {a b : Nat} (h : b ≤ a) : nI a - nI b = nI (a - b) := by
  obtain ⟨c, rfl⟩ : ∃ c, a = c + b := ⟨a - b, by omega⟩
  rw [← nI_add, Int32.add_sub_cancel, Nat.add_sub_cancel]
theorem pk_mul (a b : Nat) : nI a * nI b = nI (a * b) := (Int32.ofNat_mul a b).symm
theorem pk_div {a d : Nat} (ha : a < 2 ^ 31) (h0 : 0 < d) (hd : d < 2 ^ 31) : nI a / nI d = nI (a / d) := by
  apply Int32.toInt_inj.mp
  rw [lg_idiv_nonneg (by rw [nI_toInt ha]; omega) (by rw [nI_toInt hd]; omega), nI_toInt ha, nI_toInt hd, nI_toInt (Nat.lt_of_le_of_lt (Nat.div_le_self a d) ha)]
  first | rfl | exact (Int.natCast_ediv _ _).symm
theorem pk_rem {a d : Nat} (ha : a < 2 ^ 31) (h0 : 0 < d) (hd : d < 2 ^ 31) : nI a - nI a / nI d * nI d = nI (a % d) := by
  rw [pk_div ha h0 hd, pk_mul, pk_sub (Nat.div_mul_le_self a d)]
  exact congrArg nI (by have := Nat.div_add_mod' a d; omega)
theorem pk_ix (x : Int32) {n : Nat} (hn : n < 2 ^ 31) : x < 0 ∨ nI n ≤ x ∨ ∃ j : Nat, j < n ∧ x = nI j := by
  by_cases h : x < 0
  · exact Or.inl h
  · obtain ⟨j, hj, rfl⟩ := nI_of h
    by_cases h2 : j < n
    · exact Or.inr (Or.inr ⟨j, h2, rfl⟩)
    · exact Or.inr (Or.inl (nI_le (by omega) hj))
theorem pk_le {x y : Int32} {A B : Prop} (a b : Nat) (f : a ≤ b → A) (g : b < a → B) (hx : x = nI a := by rfl) (hy : y = nI b := by rfl) (ha : a < 2 ^ 31 := by omega) (hb : b < 2 ^ 31 := by omega) : (x ≤ y → A) ∧ (¬ x ≤ y → B) := by
  subst hx hy
  rw [nI_leI ha hb]
  exact ⟨f, fun z => g (by omega)⟩
theorem pk_lt {x y : Int32} {A B : Prop} (a b : Nat) (f : a < b → A) (g : b ≤ a → B) (hx : x = nI a := by rfl) (hy : y = nI b := by rfl) (ha : a < 2 ^ 31 := by omega) (hb : b < 2 ^ 31 := by omega) : (x < y → A) ∧ (¬ x < y → B) := by
  subst hx hy
  rw [nI_ltI ha hb]
  exact ⟨f, fun z => g (by omega)⟩
theorem pk_eq {x y : Int32} {A B : Prop} (a b : Nat) (f : a = b → A) (g : a ≠ b → B) (hx : x = nI a := by rfl) (hy : y = nI b := by rfl) (ha : a < 2 ^ 31 := by omega) (hb : b < 2 ^ 31 := by omega) : (x = y → A) ∧ (¬ x = y → B) := by
  subst hx hy
  rw [nI_eq ha hb]
  exact ⟨f, g⟩
theorem pk_in {x : Int32} (n N : Nat) (h : n < N) (hx : x = nI n := by rfl) (hN : N < 2 ^ 31 := by omega) : vp_in x N := by
  subst hx
  exact vp_in_nI h hN
theorem pk_cl {x : Int32} (n : Nat) (hx : x = nI n := by rfl) (h : n < 2 ^ 31 := by omega) : x.toNatClampNeg = n := by
  subst hx
  exact nI_clamp h
theorem pk_tn {n : Nat} (h : n < 2 ^ 32) : (nI n).toBitVec.toNat = n := Nat.mod_eq_of_lt h
theorem pk_and (x : Int32) {m : Int32} (k : Nat) (hm : m.toBitVec.toNat = 2 ^ k - 1) : x &&& m = nI (x.toBitVec.toNat % 2 ^ k) := by
  apply Int32.toBitVec_inj.mp
  apply BitVec.eq_of_toNat_eq
  rw [Int32.toBitVec_and, BitVec.toNat_and, hm, Nat.and_two_pow_sub_one_eq_mod]
  show _ = (BitVec.ofNat 32 _).toNat
  rw [BitVec.toNat_ofNat]
  exact (Nat.mod_eq_of_lt (Nat.lt_of_le_of_lt (Nat.mod_le _ _) x.toBitVec.isLt)).symm
theorem pk_andN {n : Nat} (h : n < 2 ^ 32) {m : Int32} (k : Nat) (hm : m.toBitVec.toNat = 2 ^ k - 1) : nI n &&& m = nI (n % 2 ^ k) := by
  rw [pk_and _ k hm, pk_tn h]
theorem pk_shl (a s : Int32) (k : Nat) (hs : (s.toBitVec.smod 32).toNat = k) : (a <<< s).toBitVec.toNat = a.toBitVec.toNat * 2 ^ k % 2 ^ 32 := by
  show (a.toBitVec <<< (s.toBitVec.smod 32).toNat).toNat = _
  rw [hs, BitVec.toNat_shiftLeft, Nat.shiftLeft_eq]
theorem pk_shlN {n : Nat} (s : Int32) (k : Nat) (hs : (s.toBitVec.smod 32).toNat = k) (h : n * 2 ^ k < 2 ^ 32) : nI n <<< s = nI (n * 2 ^ k) := by
  apply Int32.toBitVec_inj.mp
  apply BitVec.eq_of_toNat_eq
  have hn : n < 2 ^ 32 := Nat.lt_of_le_of_lt (Nat.le_mul_of_pos_right n (Nat.two_pow_pos k)) h
  rw [pk_shl _ _ k hs, pk_tn hn, pk_tn h, Nat.mod_eq_of_lt h]
theorem pk_shr (a s : Int32) (k : Nat) (hs : (s.toBitVec.smod 32).toNat = k) : (a >>> s).toInt = a.toInt >>> k := by
  show (a.toBitVec.sshiftRight (s.toBitVec.smod 32).toNat).toInt = _
  rw [hs, BitVec.toInt_sshiftRight]
  rfl
theorem pk_shrN {n : Nat} (h : n < 2 ^ 31) (s : Int32) (k : Nat) (hs : (s.toBitVec.smod 32).toNat = k) : nI n >>> s = nI (n / 2 ^ k) := by
  apply Int32.toInt_inj.mp
  have h2 : n / 2 ^ k ≤ n := Nat.div_le_self _ _
  rw [pk_shr _ _ k hs, nI_toInt h, nI_toInt (by omega), Int.shiftRight_eq_div_pow]
  rfl
theorem pk_ushr (x s : Int32) (k : Nat) (hs : ((s.toUInt32 &&& Int32.toUInt32 31).toBitVec % 32).toNat = k) : (x.toUInt32 >>> (s.toUInt32 &&& Int32.toUInt32 31)).toInt32.toBitVec.toNat = x.toBitVec.toNat / 2 ^ k := by
  have e : (x.toUInt32 >>> (s.toUInt32 &&& Int32.toUInt32 31)).toInt32.toBitVec = x.toBitVec >>> k := by
    rw [← hs]
    exact UInt32.toBitVec_shiftRight _ _
  rw [e, BitVec.toNat_ushiftRight, Nat.shiftRight_eq_div_pow]
theorem pk_loop {σ : Type} (W : Nat → Nat → σ → Prop) (I : Nat → σ → Prop) (e i0 : Nat) (s : σ) (hi : i0 ≤ e) (h0 : I i0 s) (hx : ∀ n s, I e s → W (n + 1) e s)
    (hs : ∀ n i s, i < e → I i s → (∀ s', I (i + 1) s' → W n (i + 1) s') → W (n + 1) i s) : ∃ n, W n i0 s :=
  ⟨e + 1, loop_i W I e hx hs (e + 1) i0 s hi (by omega) h0⟩
def bt (x : Int32) (i : Nat) : Bool := x.toBitVec.getLsbD i
theorem b_ext {x y : Int32} (h : ∀ i, i < 32 → bt x i = bt y i) : x = y := Int32.toBitVec_inj.mp (BitVec.eq_of_getLsbD_eq (fun i hi => h i hi))
theorem b_and (x y : Int32) (i : Nat) : bt (x &&& y) i = (bt x i && bt y i) := by unfold bt; rw [Int32.toBitVec_and, BitVec.getLsbD_and]
theorem b_xor (x y : Int32) (i : Nat) : bt (x ^^^ y) i = (bt x i ^^ bt y i) := by unfold bt; rw [Int32.toBitVec_xor, BitVec.getLsbD_xor]
theorem b_big {x : Int32} {i : Nat} (h : 32 ≤ i) : bt x i = false := BitVec.getLsbD_of_ge _ _ h
theorem b_m1 : ∀ i, i < 32 → bt (-1) i = true := by decide +kernel
theorem b_0 (i : Nat) : bt 0 i = false := BitVec.getLsbD_zero
theorem s_l : ∀ n, n < 32 → ((nI n &&& 31).toBitVec.smod 32).toNat = n := by decide +kernel
theorem s_u : ∀ n, n < 32 → (((nI n).toUInt32 &&& Int32.toUInt32 31).toBitVec % 32).toNat = n := by decide +kernel
theorem b_ushr (n : Nat) (hn : n < 32) (x : Int32) (i : Nat) : bt ((x.toUInt32 >>> ((nI n).toUInt32 &&& Int32.toUInt32 31)).toInt32) i = bt x (n + i) := by
  show (x.toUInt32 >>> ((nI n).toUInt32 &&& Int32.toUInt32 31)).toBitVec.getLsbD i = x.toUInt32.toBitVec.getLsbD (n + i)
  rw [UInt32.toBitVec_shiftRight]
  show (x.toUInt32.toBitVec >>> (((nI n).toUInt32 &&& Int32.toUInt32 31).toBitVec % 32).toNat).getLsbD i = _
  rw [s_u n hn, BitVec.getLsbD_ushiftRight]
end
section
/-! the field: every element is fd_c z of an integer z, and the operations of both classes are those of the integers -/
def fd_c (z : Int) : Int64 := Int64.ofInt (z % 2147483647)
theorem fd_t (z : Int) : (fd_c z).toInt = z % 2147483647 := by
  have a : 0 ≤ z % 2147483647 ∧ z % 2147483647 < 2147483647 := by omega
  exact Int64.toInt_ofInt_of_le (by omega) (by omega)
theorem fd_eq {a b : Int} (h : a % 2147483647 = b % 2147483647) : fd_c a = fd_c b := by
  unfold fd_c
  rw [h]
theorem fd_pT : (2147483647 : Int64).toInt = 2147483647 := by decide
theorem fd_rem {x : Int64} {z : Int} (h0 : 0 ≤ x.toInt) (hz : x.toInt % 2147483647 = z % 2147483647) : x - x / 2147483647 * 2147483647 = fd_c z := by
  apply Int64.toInt_inj.mp
  rw [Jvm.Kit.i64_rem_nonneg h0, fd_t, fd_pT, hz]
theorem fd_plus (x y : Int) : fd_c x + fd_c y - (fd_c x + fd_c y) / 2147483647 * 2147483647 = fd_c (x + y) := by
  have e : (fd_c x + fd_c y).toInt = x % 2147483647 + y % 2147483647 := by
    rw [Jvm.Kit.i64_add (by rw [fd_t, fd_t]; omega) (by rw [fd_t, fd_t]; omega), fd_t, fd_t]
  exact fd_rem (by rw [e]; omega) (by rw [e]; omega)
theorem fd_minus (x y : Int) : fd_c x - fd_c y + 2147483647 - (fd_c x - fd_c y + 2147483647) / 2147483647 * 2147483647 = fd_c (x - y) := by
  have e1 : (fd_c x - fd_c y).toInt = x % 2147483647 - y % 2147483647 := by
    rw [Jvm.Kit.i64_sub (by rw [fd_t, fd_t]; omega) (by rw [fd_t, fd_t]; omega), fd_t, fd_t]
  have e : (fd_c x - fd_c y + 2147483647).toInt = x % 2147483647 - y % 2147483647 + 2147483647 := by
    rw [Jvm.Kit.i64_add (by rw [e1, fd_pT]; omega) (by rw [e1, fd_pT]; omega), e1, fd_pT]
  exact fd_rem (by rw [e]; omega) (by rw [e]; omega)
theorem fd_mulb {a b : Int} (ha : 0 ≤ a ∧ a < 2147483647) (hb : 0 ≤ b ∧ b < 2147483647) : 0 ≤ a * b ∧ a * b < 4611686018427387904 := by
  refine ⟨Int.mul_nonneg ha.1 hb.1, ?_⟩
  have h : a * b ≤ 2147483647 * 2147483647 := Int.mul_le_mul (by omega) (by omega) hb.1 (by decide)
  omega
theorem fd_mT (x y : Int) : (fd_c x * fd_c y).toInt = (x % 2147483647) * (y % 2147483647) := by
  have h := fd_mulb (a := x % 2147483647) (b := y % 2147483647) (by omega) (by omega)
  rw [Jvm.Kit.i64_mul (by rw [fd_t, fd_t]; omega) (by rw [fd_t, fd_t]; omega), fd_t, fd_t]
theorem fd_times (x y : Int) : fd_c x * fd_c y - fd_c x * fd_c y / 2147483647 * 2147483647 = fd_c (x * y) := by
  have h := fd_mulb (a := x % 2147483647) (b := y % 2147483647) (by omega) (by omega)
  exact fd_rem (by rw [fd_mT]; exact h.1) (by rw [fd_mT]; exact (Int.mul_emod x y _).symm)
/-- the reference's remainder, which may be below nought, then mended -/
theorem fd_rT (x : Int64) : (x - x / 2147483647 * 2147483647).toInt = x.toInt.tmod 2147483647 := by
  rw [Jvm.Kit.i64_rem, fd_pT]
theorem fd_tm {a : Int} (h : a < 0) : a.tmod 2147483647 = - ((-a) % 2147483647) := by
  have e : a = - (- a) := by omega
  rw [e, Int.neg_tmod, Int.tmod_eq_emod_of_nonneg (by omega)]
  rw [Int.neg_neg]
theorem fd_neg {x : Int64} {z : Int} (hz : x.toInt % 2147483647 = z % 2147483647) (h : x - x / 2147483647 * 2147483647 < 0) : x - x / 2147483647 * 2147483647 + 2147483647 = fd_c z := by
  have h0 : (0 : Int64).toInt = 0 := by decide
  rw [Int64.lt_iff_toInt_lt, fd_rT, h0] at h
  have hx : x.toInt < 0 := by
    rcases Int.lt_or_le x.toInt 0 with g | g
    · exact g
    · rw [Int.tmod_eq_emod_of_nonneg g] at h
      omega
  rw [fd_tm hx] at h
  have e : (x - x / 2147483647 * 2147483647).toInt = - ((- x.toInt) % 2147483647) := by rw [fd_rT, fd_tm hx]
  apply Int64.toInt_inj.mp
  rw [Jvm.Kit.i64_add (by rw [e, fd_pT]; omega) (by rw [e, fd_pT]; omega), e, fd_pT, fd_t, ← hz]
  omega
theorem fd_pos {x : Int64} {z : Int} (hz : x.toInt % 2147483647 = z % 2147483647) (h : ¬ x - x / 2147483647 * 2147483647 < 0) : x - x / 2147483647 * 2147483647 = fd_c z := by
  have h0 : (0 : Int64).toInt = 0 := by decide
  rw [Int64.lt_iff_toInt_lt, fd_rT, h0] at h
  apply Int64.toInt_inj.mp
  rw [fd_rT, fd_t, ← hz]
  rcases Int.lt_or_le x.toInt 0 with g | g
  · rw [fd_tm g] at h ⊢
    omega
  · rw [Int.tmod_eq_emod_of_nonneg g]
/-- what the reference's field is given, as integers -/
theorem fd_aT (x y : Int) : (fd_c x + fd_c y).toInt = x % 2147483647 + y % 2147483647 := by
  rw [Jvm.Kit.i64_add (by rw [fd_t, fd_t]; omega) (by rw [fd_t, fd_t]; omega), fd_t, fd_t]
theorem fd_sT (x y : Int) : (fd_c x - fd_c y).toInt = x % 2147483647 - y % 2147483647 := by
  rw [Jvm.Kit.i64_sub (by rw [fd_t, fd_t]; omega) (by rw [fd_t, fd_t]; omega), fd_t, fd_t]
theorem fd_zA (x y : Int) : (fd_c x + fd_c y).toInt % 2147483647 = (x + y) % 2147483647 := by
  rw [fd_aT]
  omega
theorem fd_zS (x y : Int) : (fd_c x - fd_c y).toInt % 2147483647 = (x - y) % 2147483647 := by
  rw [fd_sT]
  omega
theorem fd_zM (x y : Int) : (fd_c x * fd_c y).toInt % 2147483647 = (x * y) % 2147483647 := by
  rw [fd_mT]
  exact (Int.mul_emod x y _).symm
theorem fd_zSS (x y z : Int) : (fd_c x - fd_c y - fd_c z).toInt % 2147483647 = (x - y - z) % 2147483647 := by
  rw [Jvm.Kit.i64_sub (by rw [fd_sT, fd_t]; omega) (by rw [fd_sT, fd_t]; omega), fd_sT, fd_t]
  omega
theorem fd_zSA (x y z : Int) : (fd_c x - fd_c y + fd_c z).toInt % 2147483647 = (x - y + z) % 2147483647 := by
  rw [Jvm.Kit.i64_add (by rw [fd_sT, fd_t]; omega) (by rw [fd_sT, fd_t]; omega), fd_sT, fd_t]
  omega
theorem fd_nT (x : Int) : (- fd_c x).toInt = - (x % 2147483647) := by
  rw [Jvm.Kit.i64_neg (by rw [fd_t]; omega), fd_t]
theorem fd_zN (x y : Int) : (fd_c x + (- fd_c y)).toInt % 2147483647 = (x - y) % 2147483647 := by
  rw [Jvm.Kit.i64_add (by rw [fd_t, fd_nT]; omega) (by rw [fd_t, fd_nT]; omega), fd_t, fd_nT]
  omega
/-- ints that are elements -/
theorem fd_i {n : Nat} (h : n < 2147483647) : (nI n).toInt64 = fd_c n := by
  apply Int64.toInt_inj.mp
  rw [Jvm.Kit.i64_of_i32, nI_toInt (by omega), fd_t]
  omega
theorem fd_0 : fd_c 0 = 0 := by decide
theorem fd_1 : fd_c 1 = 1 := by decide
theorem fd_2 : fd_c 2 = 2 := by decide
theorem fd_H : fd_c 1073741824 = 1073741824 := by decide
theorem fd_back {n : Nat} (h : n < 2147483647) : (fd_c n).toInt32 = nI n := by
  rw [← fd_i h]
  exact lg_l2i_i2l _
end
section
/-! the multilinear extension, over the integers -/
def ml_f (h : Nat → Int) (z : Int) (j : Nat) : Int := h (2 * j) + (h (2 * j + 1) - h (2 * j)) * z
/-- the table after m challenges -/
def ml_E (h r : Nat → Int) : Nat → Nat → Int
  | 0 => h
  | m + 1 => ml_f (ml_E h r m) (r m)
def ml_b (z : Nat → Int) (x i : Nat) : Int := if x / 2 ^ i % 2 = 1 then z i else 1 - z i
/-- the weight of the assignment x, by the first i variables -/
def ml_p (z : Nat → Int) (x : Nat) : Nat → Int
  | 0 => 1
  | i + 1 => ml_p z x i * ml_b z x i
def ml_s (f : Nat → Int) : Nat → Int
  | 0 => 0
  | n + 1 => ml_s f n + f n
theorem ml_s_e {f g : Nat → Int} : ∀ n : Nat, (∀ i, i < n → f i = g i) → ml_s f n = ml_s g n := by
  intro n
  induction n with
  | zero => intro _; rfl
  | succ n ih =>
    intro h
    show ml_s f n + f n = ml_s g n + g n
    rw [ih (fun i hi => h i (by omega)), h n (by omega)]
theorem ml_s_2 (f : Nat → Int) : ∀ n : Nat, ml_s f (2 * n) = ml_s (fun j => f (2 * j) + f (2 * j + 1)) n := by
  intro n
  induction n with
  | zero => rfl
  | succ n ih =>
    have e : 2 * (n + 1) = 2 * n + 1 + 1 := by omega
    rw [e]
    show ml_s f (2 * n) + f (2 * n) + f (2 * n + 1) = ml_s (fun j => f (2 * j) + f (2 * j + 1)) n + (f (2 * n) + f (2 * n + 1))
    rw [ih, Int.add_assoc]
theorem ml_bit (x i : Nat) : x / 2 ^ (i + 1) % 2 = x / 2 / 2 ^ i % 2 := by
  rw [Nat.div_div_eq_div_mul, Nat.pow_succ, Nat.mul_comm]
theorem ml_b_s (z : Nat → Int) (x i : Nat) : ml_b z x (i + 1) = ml_b (fun k => z (k + 1)) (x / 2) i := by
  unfold ml_b
  rw [ml_bit]
theorem ml_p_s (z : Nat → Int) (x : Nat) : ∀ d : Nat, ml_p z x (d + 1) = ml_b z x 0 * ml_p (fun k => z (k + 1)) (x / 2) d := by
  intro d
  induction d with
  | zero =>
    show 1 * ml_b z x 0 = ml_b z x 0 * 1
    rw [Int.one_mul, Int.mul_one]
  | succ d ih =>
    show ml_p z x (d + 1) * ml_b z x (d + 1) = ml_b z x 0 * (ml_p (fun k => z (k + 1)) (x / 2) d * ml_b (fun k => z (k + 1)) (x / 2) d)
    rw [ih, ml_b_s, Int.mul_assoc]
theorem ml_b_e (z : Nat → Int) (j : Nat) : ml_b z (2 * j) 0 = 1 - z 0 := by
  unfold ml_b
  rw [if_neg (by rw [Nat.pow_zero]; omega)]
theorem ml_b_o (z : Nat → Int) (j : Nat) : ml_b z (2 * j + 1) 0 = z 0 := by
  unfold ml_b
  rw [if_pos (by rw [Nat.pow_zero]; omega)]
theorem ml_alg (a b z p : Int) : a * ((1 - z) * p) + b * (z * p) = (a + (b - a) * z) * p := by grind
theorem ml_step (h z : Nat → Int) (d : Nat) : ml_s (fun x => h x * ml_p z x (d + 1)) (2 ^ (d + 1)) = ml_s (fun j => ml_f h (z 0) j * ml_p (fun k => z (k + 1)) j d) (2 ^ d) := by
  have e : 2 ^ (d + 1) = 2 * 2 ^ d := by rw [Nat.pow_succ, Nat.mul_comm]
  rw [e, ml_s_2]
  apply ml_s_e
  intro j _
  have e0 : 2 * j / 2 = j := by omega
  have e1 : (2 * j + 1) / 2 = j := by omega
  show h (2 * j) * ml_p z (2 * j) (d + 1) + h (2 * j + 1) * ml_p z (2 * j + 1) (d + 1) = ml_f h (z 0) j * ml_p (fun k => z (k + 1)) j d
  rw [ml_p_s, ml_p_s, e0, e1, ml_b_e, ml_b_o, ml_alg]
  rfl
theorem ml_E_s (h r : Nat → Int) : ∀ m : Nat, ml_E (ml_f h (r 0)) (fun k => r (k + 1)) m = ml_E h r (m + 1) := by
  intro m
  induction m with
  | zero => rfl
  | succ m ih =>
    show ml_f (ml_E (ml_f h (r 0)) (fun k => r (k + 1)) m) (r (m + 1)) = ml_f (ml_E h r (m + 1)) (r (m + 1))
    rw [ih]
/-- the sum over the assignments is the table's last entry -/
theorem ml_at : ∀ (d : Nat) (h z : Nat → Int), ml_s (fun x => h x * ml_p z x d) (2 ^ d) = ml_E h z d 0 := by
  intro d
  induction d with
  | zero =>
    intro h z
    show 0 + h 0 * 1 = h 0
    rw [Int.zero_add, Int.mul_one]
  | succ d ih =>
    intro h z
    rw [ml_step, ih, ml_E_s]
theorem ml_E_c (h : Nat → Int) {r z : Nat → Int} : ∀ m : Nat, (∀ i, i < m → z i = r i) → ml_E h z m = ml_E h r m := by
  intro m
  induction m with
  | zero => intro _; rfl
  | succ m ih =>
    intro e
    show ml_f (ml_E h z m) (z m) = ml_f (ml_E h r m) (r m)
    rw [ih (fun i hi => e i (by omega)), e m (by omega)]
theorem ml_E_h {h h' : Nat → Int} (r : Nat → Int) : ∀ (m d : Nat), (∀ i, i < 2 ^ (m + d) → h i = h' i) → ∀ j, j < 2 ^ d → ml_E h r m j = ml_E h' r m j := by
  intro m
  induction m with
  | zero =>
    intro d e j hj
    exact e j (by rw [Nat.zero_add]; exact hj)
  | succ m ih =>
    intro d e j hj
    have e2 : 2 ^ (d + 1) = 2 * 2 ^ d := by rw [Nat.pow_succ, Nat.mul_comm]
    have H := ih (d + 1) (fun i hi => e i (by rw [show m + 1 + d = m + (d + 1) by omega]; exact hi))
    show ml_f (ml_E h r m) (r m) j = ml_f (ml_E h' r m) (r m) j
    unfold ml_f
    rw [H (2 * j) (by omega), H (2 * j + 1) (by omega)]
/-- bits in the place of the free variables pick an entry -/
theorem ml_E_b (h z : Nat → Int) (m q : Nat) : ∀ k : Nat, (∀ i, i < k → z (m + i) = ((q / 2 ^ i % 2 : Nat) : Int)) → ∀ j, ml_E h z (m + k) j = ml_E h z m (j * 2 ^ k + q % 2 ^ k) := by
  intro k
  induction k with
  | zero =>
    intro _ j
    rw [Nat.pow_zero, Nat.mod_one, Nat.mul_one]
    rfl
  | succ k ih =>
    intro e j
    have H := ih (fun i hi => e i (by omega))
    show ml_f (ml_E h z (m + k)) (z (m + k)) j = _
    unfold ml_f
    rw [H, H, e k (by omega), Nat.mod_pow_succ, Nat.pow_succ]
    have hb : q / 2 ^ k % 2 = 0 ∨ q / 2 ^ k % 2 = 1 := by omega
    rcases hb with hb | hb
    · rw [hb]
      have e1 : j * (2 ^ k * 2) + (q % 2 ^ k + 2 ^ k * 0) = 2 * j * 2 ^ k + q % 2 ^ k := by
        rw [Nat.mul_zero, Nat.add_zero, Nat.mul_comm (2 ^ k) 2, ← Nat.mul_assoc, Nat.mul_comm j 2]
      rw [e1]
      simp
    · rw [hb]
      have e1 : j * (2 ^ k * 2) + (q % 2 ^ k + 2 ^ k * 1) = (2 * j + 1) * 2 ^ k + q % 2 ^ k := by
        rw [Nat.add_mul, Nat.one_mul, Nat.mul_one, Nat.mul_comm (2 ^ k) 2, ← Nat.mul_assoc, Nat.mul_comm j 2]
        omega
      rw [e1]
      simp
      omega
/-- what the reference sets its places to in the round after m challenges -/
def ml_z (r : Nat → Int) (m : Nat) (t : Int) (q i : Nat) : Int := if i < m then r i else if i = m then t else ((q / 2 ^ (i - m - 1) % 2 : Nat) : Int)
theorem ml_g (h r : Nat → Int) (m d : Nat) (t : Int) {q : Nat} (hq : q < 2 ^ d) : ml_E h (ml_z r m t q) (m + 1 + d) 0 = ml_f (ml_E h r m) t q := by
  rw [ml_E_b h (ml_z r m t q) (m + 1) q d, Nat.zero_mul, Nat.zero_add, Nat.mod_eq_of_lt hq]
  · show ml_f (ml_E h (ml_z r m t q) m) (ml_z r m t q m) q = _
    have e : ml_z r m t q m = t := by
      unfold ml_z
      rw [if_neg (by omega), if_pos rfl]
    rw [e, ml_E_c h (r := r) m]
    intro i hi
    unfold ml_z
    rw [if_pos hi]
  · intro i _
    unfold ml_z
    rw [if_neg (by omega), if_neg (by omega), show m + 1 + i - m - 1 = i by omega]
/-- Newton's form and Lagrange's differ by a multiple of the modulus -/
theorem ml_poly (a b c r : Int) : (a + (b - a) * r + ((c - b) - (b - a)) * (r * (r - 1) * 1073741824)) = (a * ((r - 1) * (r - 2)) * 1073741824 - b * (r * (r - 2)) + c * (r * (r - 1)) * 1073741824) + 2147483647 * (a * (r - 1) - b * (r * (r - 1))) := by grind
theorem ml_polyc (a b c r : Int) : fd_c (a + (b - a) * r + ((c - b) - (b - a)) * (r * (r - 1) * 1073741824)) = fd_c (a * ((r - 1) * (r - 2)) * 1073741824 - b * (r * (r - 2)) + c * (r * (r - 1)) * 1073741824) := by
  apply fd_eq
  rw [ml_poly]
  exact Int.add_mul_emod_self_left _ _ _
end
section
/-! sets of variables, powers of two, the truth of a formula -/
theorem sv_m : ∀ n, n < 6 → ∀ i, i < 32 → bt ((((1 : Int32) <<< (nI n &&& 31)) - 1) ^^^ (-1)) i = decide (n ≤ i) := by decide +kernel
theorem sv_in {n : Nat} (hn : n < 6) (x : Int32) : (x.toUInt32 >>> ((nI n).toUInt32 &&& Int32.toUInt32 31)).toInt32 = 0 ↔ x &&& ((((1 : Int32) <<< (nI n &&& 31)) - 1) ^^^ (-1)) = 0 := by
  constructor
  · intro h
    apply b_ext
    intro i hi
    rw [b_and, sv_m n hn i hi, b_0]
    by_cases c : n ≤ i
    · have e := b_ushr n (by omega) x (i - n)
      rw [h, b_0, show n + (i - n) = i by omega] at e
      rw [← e]
      rfl
    · rw [decide_eq_false c, Bool.and_false]
  · intro h
    apply b_ext
    intro i hi
    rw [b_ushr n (by omega), b_0]
    by_cases c : n + i < 32
    · have e := b_and x ((((1 : Int32) <<< (nI n &&& 31)) - 1) ^^^ (-1)) (n + i)
      rw [h, b_0, sv_m n hn (n + i) c, decide_eq_true (by omega), Bool.and_true] at e
      exact e.symm
    · exact b_big (by omega)
theorem sv_p : ∀ n, n < 6 → (1 : Int32) <<< (nI n &&& 31) = nI (2 ^ n) := by decide +kernel
theorem sv_2 : ∀ n, n < 6 → 2 ^ n ≤ 32 := by decide
/-- the bit i of the assignment x, as the reference takes it -/
theorem sv_b {x i : Nat} (hx : x < 32) (hi : i < 32) : (nI x >>> (nI i &&& 31)) &&& 1 = nI (x / 2 ^ i % 2) := by
  rw [pk_shrN (by omega) _ i (s_l i hi)]
  have h : x / 2 ^ i ≤ x := Nat.div_le_self _ _
  exact pk_andN (by omega) 1 (by decide)
/-- a clause at k fails at x -/
def tr_n (pos neg : Nat → Int32) (b : Nat) (x : Int32) (k : Nat) : Prop := x &&& pos (b + k) = 0 ∧ (x ^^^ (-1)) &&& neg (b + k) = 0
def tr_F (pos neg : Nat → Int32) (b : Nat) (x : Int32) (k : Nat) : Prop := ∀ i, i < k → ¬ tr_n pos neg b x i
noncomputable def tr_v (pos neg : Nat → Int32) (b : Nat) (x : Int32) (k : Nat) : Nat := by
  classical exact if tr_F pos neg b x k then 1 else 0
theorem tr_F0 (pos neg : Nat → Int32) (b : Nat) (x : Int32) : tr_F pos neg b x 0 := fun i h => absurd h (by omega)
theorem tr_Fs {pos neg : Nat → Int32} {b : Nat} {x : Int32} {k : Nat} (h : tr_F pos neg b x k) (g : ¬ tr_n pos neg b x k) : tr_F pos neg b x (k + 1) := by
  intro i hi
  by_cases e : i = k
  · rw [e]; exact g
  · exact h i (by omega)
theorem tr_v1 {pos neg : Nat → Int32} {b : Nat} {x : Int32} {k : Nat} (h : tr_F pos neg b x k) : tr_v pos neg b x k = 1 := if_pos h
theorem tr_v0 {pos neg : Nat → Int32} {b : Nat} {x : Int32} {k : Nat} (h : ¬ tr_F pos neg b x k) : tr_v pos neg b x k = 0 := if_neg h
theorem tr_vr (pos neg : Nat → Int32) (b : Nat) (x : Int32) (k : Nat) : tr_v pos neg b x k = 0 ∨ tr_v pos neg b x k = 1 := by
  by_cases h : tr_F pos neg b x k
  · exact Or.inr (tr_v1 h)
  · exact Or.inl (tr_v0 h)
theorem tr_no {pos neg : Nat → Int32} {b : Nat} {x : Int32} {k c : Nat} (hk : k < c) (g : tr_n pos neg b x k) : tr_v pos neg b x c = 0 := tr_v0 (fun h => h k hk g)
end
section
/-! the class's own methods, each against the integers -/
theorem xs_minus {post : Int64 → Prop} {x y : Int} (h : post (fd_c (x - y))) : wpX_minus post (fd_c x) (fd_c y) := by
  refine ⟨by decide, ?_⟩
  rw [fd_minus]
  exact h
theorem xs_plus {post : Int64 → Prop} {x y : Int} (h : post (fd_c (x + y))) : wpX_plus post (fd_c x) (fd_c y) := by
  refine ⟨by decide, ?_⟩
  rw [fd_plus]
  exact h
theorem xs_times {post : Int64 → Prop} {x y : Int} (h : post (fd_c (x * y))) : wpX_times post (fd_c x) (fd_c y) := by
  refine ⟨by decide, ?_⟩
  rw [fd_times]
  exact h
theorem xs_timesH {post : Int64 → Prop} {x : Int} (h : post (fd_c (x * 1073741824))) : wpX_times post (fd_c x) 1073741824 := by
  rw [← fd_H]
  exact xs_times h
theorem xs_minus1 {post : Int64 → Prop} {x : Int} (h : post (fd_c (x - 1))) : wpX_minus post (fd_c x) 1 := by
  rw [← fd_1]
  exact xs_minus h
/-- the sums of one round: G t, the message by manner, the status -/
def sm_G (T : Nat → Nat → Int) (h : Nat) (t : Nat) : Int := ml_s (fun j => ml_f (T 0) t j * ml_f (T 1) t j) h
def sm_e (how : Int32) (gap : Int) (i : Nat) : Int := if how = 1 then gap * 1073741824 else if how = 2 then (if i = 0 then gap else if i = 1 then 0 else - gap) else 0
def sm_v (how : Int32) (V : Int) (G : Nat → Int) (i : Nat) : Int := G i + sm_e how (V - (G 0 + G 1)) i
def sm_st (how : Int32) (V : Int) (G : Nat → Int) : Int32 := if fd_c (sm_v how V G 0 + sm_v how V G 1) = fd_c V then 1 else 3
def sm_N (S : Nat → Int) (r : Int) : Int := S 0 + (S 1 - S 0) * r + ((S 2 - S 1) - (S 1 - S 0)) * (r * (r - 1) * 1073741824)
section
variable {xv xa xm xs xg xt : Int32} {xr : Int64} {cc ps ng ch : Nat → Int32} {se tb : Nat → Int64}
theorem xs_isTrue_l {post : Int32 → Prop} {x : Int32} {b c : Nat} (hb : b + c ≤ 12) (hp : post (nI (tr_v ps ng b x c))) : ∀ d k : Nat, k + d = c → tr_F ps ng b x k → wX_isTrue_18 post x (nI (b + c)) xv xa xm xs xg xr xt cc ps ng ch se tb (d + 1) (nI (b + k)) := by
  intro d
  induction d with
  | zero =>
    intro k hk hF
    have e : k = c := by omega
    subst e
    rw [tr_v1 hF] at hp
    exact br_t (nI_le (by omega) (by omega)) hp
  | succ d ih =>
    intro k hk hF
    have hi : vp_in (nI (b + k)) 12 := vp_in_nI (by omega) (by omega)
    have hc : (nI (b + k)).toNatClampNeg = b + k := nI_clamp (by omega)
    have next : ¬ tr_n ps ng b x k → ∀ y : Int32, y = nI (b + k) + 1 → wX_isTrue_18 post x (nI (b + c)) xv xa xm xs xg xr xt cc ps ng ch se tb (d + 1) y := by
      intro g y ey
      rw [ey, nI_1]
      exact ih (k + 1) (by omega) (tr_Fs hF g)
    refine br_f (nI_ge (by omega) (by omega)) ⟨hi, ?_⟩
    by_cases h1 : x &&& ps (nI (b + k)).toNatClampNeg = 0
    · refine br_t h1 ⟨hi, ?_⟩
      rw [hc] at h1
      by_cases h2 : (x ^^^ (-1)) &&& ng (nI (b + k)).toNatClampNeg = 0
      · refine br_t h2 ?_
        rw [hc] at h2
        rw [tr_no (k := k) (by omega) ⟨h1, h2⟩] at hp
        exact hp
      · refine br_f h2 (next fun g => h2 ?_)
        rw [hc]
        exact g.2
    · refine br_f h1 (next fun g => h1 ?_)
      rw [hc]
      exact g.1
theorem xs_isTrue {post : Int32 → Prop} {f c : Nat} (hf : f < 2) (hc : c ≤ 6) (ec : cc f = nI c) (x : Int32) (hp : post (nI (tr_v ps ng (6 * f) x c))) : wpX_isTrue post (xv, xa, xm, xs, xg, xr, xt, cc, ps, ng, ch, se, tb) (nI f) x := by
  have e1 : nI f * 6 = nI (6 * f) := by rw [Nat.mul_comm]; exact pk_mul f 6
  have e2 : nI (6 * f) + cc (nI f).toNatClampNeg = nI (6 * f + c) := by rw [nI_clamp (by omega), ec, nI_add]
  refine nm_r e1 ⟨vp_in_nI hf (by omega), nm_r e2 ⟨c + 1, ?_⟩⟩
  exact xs_isTrue_l (by omega) hp c 0 (by omega) (tr_F0 _ _ _ _)
theorem xs_fill_l {post : SX → Prop} {f c n : Nat} (hf : f < 2) (hn : n < 6) (hc : c ≤ 6) (ec : cc f = nI c) (tb0 : Nat → Int64)
    (hp : ∀ t : Nat → Int64, (∀ j, j < 2 ^ n → t (32 * f + j) = fd_c (tr_v ps ng (6 * f) (nI j) c)) → (∀ i, (i < 32 * f ∨ 32 * f + 32 ≤ i) → t i = tb0 i) → post (xv, nI (2 ^ n), xm, xs, xg, xr, xt, cc, ps, ng, ch, se, t)) :
    ∀ d x : Nat, x + d = 2 ^ n → ∀ t : Nat → Int64, (∀ j, j < x → t (32 * f + j) = fd_c (tr_v ps ng (6 * f) (nI j) c)) → (∀ i, (i < 32 * f ∨ 32 * f + 32 ≤ i) → t i = tb0 i) → wX_fillTable_7 post (nI f) (nI (32 * f)) xv (nI (2 ^ n)) xm xs xg xr xt (d + 1) (nI x) cc ps ng ch se t := by
  have h32 := sv_2 n hn
  intro d
  induction d with
  | zero =>
    intro x hx t h1 h2
    have e : x = 2 ^ n := by omega
    subst e
    exact br_t (nI_le (by omega) (by omega)) (hp t h1 h2)
  | succ d ih =>
    intro x hx t h1 h2
    have ei : nI (32 * f) + nI x = nI (32 * f + x) := nI_add _ _
    have hi : vp_in (nI (32 * f) + nI x) 64 := by rw [ei]; exact vp_in_nI (by omega) (by omega)
    have hcl : (nI (32 * f) + nI x).toNatClampNeg = 32 * f + x := by rw [ei]; exact nI_clamp (by omega)
    have next : ∀ w : Int64, w = fd_c (tr_v ps ng (6 * f) (nI x) c) → ∀ t' : Nat → Int64, t' = vp_updL t (nI (32 * f) + nI x).toNatClampNeg w → ∀ y : Int32, y = nI x + 1 → wX_fillTable_7 post (nI f) (nI (32 * f)) xv (nI (2 ^ n)) xm xs xg xr xt (d + 1) y cc ps ng ch se t' := by
      intro w ew t' et y ey
      rw [ey, nI_1, et, hcl]
      refine ih (x + 1) (by omega) _ ?_ ?_
      · intro j hj
        by_cases e : j = x
        · rw [e, pk_uLs, ew]
        · rw [pk_uLn (by omega)]
          exact h1 j (by omega)
      · intro i hi2
        rw [pk_uLn (by omega)]
        exact h2 i hi2
    refine br_f (nI_ge (by omega) (by omega)) (xs_isTrue hf hc ec (nI x) ?_)
    rcases tr_vr ps ng (6 * f) (nI x) c with z | z
    · rw [z]
      exact br_t rfl ⟨hi, next 0 (by rw [z]; exact fd_0.symm)⟩
    · rw [z]
      exact br_f (by decide) ⟨hi, next 1 (by rw [z]; exact fd_1.symm)⟩
theorem xs_fill {post : SX → Prop} {f c n : Nat} (hf : f < 2) (hn : n < 6) (hc : c ≤ 6) (ec : cc f = nI c)
    (hp : ∀ t : Nat → Int64, (∀ j, j < 2 ^ n → t (32 * f + j) = fd_c (tr_v ps ng (6 * f) (nI j) c)) → (∀ i, (i < 32 * f ∨ 32 * f + 32 ≤ i) → t i = tb i) → post (xv, nI (2 ^ n), xm, xs, xg, xr, xt, cc, ps, ng, ch, se, t)) :
    wpX_fillTable post (xv, nI (2 ^ n), xm, xs, xg, xr, xt, cc, ps, ng, ch, se, tb) (nI f) := by
  have e1 : nI f * 32 = nI (32 * f) := by rw [Nat.mul_comm]; exact pk_mul f 32
  refine nm_r e1 ⟨2 ^ n + 1, ?_⟩
  exact xs_fill_l hf hn hc ec tb hp (2 ^ n) 0 (by omega) tb (fun j h => absurd h (by omega)) (fun _ _ => rfl)
theorem xs_bound {post : Int64 → Prop} {f j : Nat} {T : Nat → Int} (hf : f < 2) (hj : j < 16) (h0 : tb (32 * f + 2 * j) = fd_c (T (2 * j))) (h1 : tb (32 * f + (2 * j + 1)) = fd_c (T (2 * j + 1))) (z : Int) (hp : post (fd_c (ml_f T z j))) : wpX_boundEntry post (xv, xa, xm, xs, xg, xr, xt, cc, ps, ng, ch, se, tb) (nI f) (nI j) (fd_c z) := by
  have e1 : nI f * 32 + 2 * nI j = nI (32 * f + 2 * j) := by
    rw [show nI f * 32 = nI (32 * f) by rw [Nat.mul_comm]; exact pk_mul f 32, show 2 * nI j = nI (2 * j) from pk_mul 2 j, nI_add]
  have c0 : (nI (32 * f + 2 * j)).toNatClampNeg = 32 * f + 2 * j := nI_clamp (by omega)
  have c1 : (nI (32 * f + 2 * j) + 1).toNatClampNeg = 32 * f + (2 * j + 1) := by
    rw [nI_1]
    exact nI_clamp (by omega)
  have i0 : vp_in (nI (32 * f + 2 * j)) 64 := vp_in_nI (by omega) (by omega)
  have i1 : vp_in (nI (32 * f + 2 * j) + 1) 64 := by
    rw [nI_1]
    exact vp_in_nI (by omega) (by omega)
  refine nm_r e1 ⟨i1, i0, ?_⟩
  rw [c0, c1, h0, h1]
  exact xs_minus (xs_times ⟨i0, xs_plus hp⟩)
theorem xs_half {h : Nat} (hh : h ≤ 16) : nI (2 * h) / 2 = nI h := by
  have e := pk_div (a := 2 * h) (d := 2) (by omega) (by decide) (by decide)
  rw [show 2 * h / 2 = h by omega] at e
  exact e
theorem xs_honest_l {post : Int64 → Prop} {h : Nat} {T : Nat → Nat → Int} (hh : h ≤ 16) (hT : ∀ f, f < 2 → ∀ i, i < 2 * h → tb (32 * f + i) = fd_c (T f i)) (z : Int) (hp : post (fd_c (ml_s (fun j => ml_f (T 0) z j * ml_f (T 1) z j) h))) :
    ∀ d j : Nat, j + d = h → wX_honestAt_5 post (fd_c z) xv xa xm xs xg xr (nI (2 * h)) cc ps ng ch se tb (d + 1) (fd_c (ml_s (fun j => ml_f (T 0) z j * ml_f (T 1) z j) j)) (nI j) := by
  intro d
  induction d with
  | zero =>
    intro j hj
    have e : j = h := by omega
    subst e
    exact ⟨by decide, br_t (by rw [xs_half hh]; exact nI_le (by omega) (by omega)) hp⟩
  | succ d ih =>
    intro j hj
    refine ⟨by decide, br_f (by rw [xs_half hh]; exact nI_ge (by omega) (by omega)) ?_⟩
    refine xs_bound (f := 0) (T := T 0) (by omega) (by omega) (hT 0 (by omega) (2 * j) (by omega)) (hT 0 (by omega) (2 * j + 1) (by omega)) z ?_
    refine xs_bound (f := 1) (T := T 1) (by omega) (by omega) (hT 1 (by omega) (2 * j) (by omega)) (hT 1 (by omega) (2 * j + 1) (by omega)) z ?_
    refine xs_times (xs_plus (nm_r (nI_1 j) ?_))
    exact ih (j + 1) (by omega)
theorem xs_honest {post : Int64 → Prop} {h : Nat} {T : Nat → Nat → Int} {w : Int64} (hh : h ≤ 16) (ht : xt = nI (2 * h)) (hT : ∀ f, f < 2 → ∀ i, i < 2 * h → tb (32 * f + i) = fd_c (T f i)) (t : Nat) (hw : w = fd_c t) (hp : post (fd_c (sm_G T h t))) : wpX_honestAt post (xv, xa, xm, xs, xg, xr, xt, cc, ps, ng, ch, se, tb) w := by
  subst ht hw
  refine ⟨h + 1, ?_⟩
  have H := xs_honest_l (xv := xv) (xa := xa) (xm := xm) (xs := xs) (xg := xg) (xr := xr) (cc := cc) (ps := ps) (ng := ng) (ch := ch) (se := se) hh hT t hp h 0 (by omega)
  rw [show ml_s (fun j => ml_f (T 0) t j * ml_f (T 1) t j) 0 = 0 from rfl, fd_0, nI_0] at H
  exact H
theorem xs_bind_l {post : SX → Prop} {f h : Nat} {T : Nat → Int} (hf : f < 2) (hh : h ≤ 16) (hT : ∀ i, i < 2 * h → tb (32 * f + i) = fd_c (T i)) (z : Int)
    (hp : ∀ t : Nat → Int64, (∀ j, j < h → t (32 * f + j) = fd_c (ml_f T z j)) → (∀ i, (i < 32 * f ∨ 32 * f + 32 ≤ i) → t i = tb i) → post (xv, xa, xm, xs, xg, xr, nI (2 * h), cc, ps, ng, ch, se, t)) :
    ∀ d j : Nat, j + d = h → ∀ t : Nat → Int64, (∀ i, i < j → t (32 * f + i) = fd_c (ml_f T z i)) → (∀ i, j ≤ i → t (32 * f + i) = tb (32 * f + i)) → (∀ i, (i < 32 * f ∨ 32 * f + 32 ≤ i) → t i = tb i) → wX_bindVariable_9 post (nI f) (fd_c z) (nI (32 * f)) xv xa xm xs xg xr (nI (2 * h)) (d + 1) (nI j) cc ps ng ch se t := by
  intro d
  induction d with
  | zero =>
    intro j hj t h1 _ h3
    have e : j = h := by omega
    subst e
    exact ⟨by decide, br_t (by rw [xs_half hh]; exact nI_le (by omega) (by omega)) (hp t h1 h3)⟩
  | succ d ih =>
    intro j hj t h1 h2 h3
    have ei : nI (32 * f) + nI j = nI (32 * f + j) := nI_add _ _
    have hi : vp_in (nI (32 * f) + nI j) 64 := by rw [ei]; exact vp_in_nI (by omega) (by omega)
    have hcl : (nI (32 * f) + nI j).toNatClampNeg = 32 * f + j := by rw [ei]; exact nI_clamp (by omega)
    refine ⟨by decide, br_f (by rw [xs_half hh]; exact nI_ge (by omega) (by omega)) ?_⟩
    refine xs_bound (T := T) hf (by omega) ((h2 (2 * j) (by omega)).trans (hT _ (by omega))) ((h2 (2 * j + 1) (by omega)).trans (hT _ (by omega))) z ⟨hi, ?_⟩
    intro t' et y ey
    rw [ey, nI_1, et, hcl]
    refine ih (j + 1) (by omega) _ ?_ ?_ ?_
    · intro i hij
      by_cases e : i = j
      · rw [e, pk_uLs]
      · rw [pk_uLn (by omega)]
        exact h1 i (by omega)
    · intro i hij
      rw [pk_uLn (by omega)]
      exact h2 i (by omega)
    · intro i hi2
      rw [pk_uLn (by omega)]
      exact h3 i hi2
theorem xs_bind {post : SX → Prop} {f h : Nat} {T : Nat → Int} {w : Int64} (hf : f < 2) (hh : h ≤ 16) (ht : xt = nI (2 * h)) (hT : ∀ i, i < 2 * h → tb (32 * f + i) = fd_c (T i)) (z : Int) (hw : w = fd_c z)
    (hp : ∀ t : Nat → Int64, (∀ j, j < h → t (32 * f + j) = fd_c (ml_f T z j)) → (∀ i, (i < 32 * f ∨ 32 * f + 32 ≤ i) → t i = tb i) → post (xv, xa, xm, xs, xg, xr, xt, cc, ps, ng, ch, se, t)) :
    wpX_bindVariable post (xv, xa, xm, xs, xg, xr, xt, cc, ps, ng, ch, se, tb) (nI f) w := by
  subst ht hw
  have e1 : nI f * 32 = nI (32 * f) := by rw [Nat.mul_comm]; exact pk_mul f 32
  refine nm_r e1 ⟨h + 1, ?_⟩
  exact xs_bind_l hf hh hT z hp h 0 (by omega) tb (fun i h => absurd h (by omega)) (fun _ _ => rfl) (fun _ _ => rfl)
end
end
section
/-! a round of the class: the message, its status, the polynomial, the end -/
theorem sm_e1 {gap : Int} {i : Nat} : sm_e 1 gap i = gap * 1073741824 := if_pos rfl
theorem sm_e20 {gap : Int} : sm_e 2 gap 0 = gap := rfl
theorem sm_e21 {gap : Int} : sm_e 2 gap 1 = 0 := rfl
theorem sm_e22 {gap : Int} : sm_e 2 gap 2 = - gap := rfl
theorem sm_e0 {how : Int32} {gap : Int} {i : Nat} (h1 : ¬ how = 1) (h2 : ¬ how = 2) : sm_e how gap i = 0 := by
  unfold sm_e
  rw [if_neg h1, if_neg h2]
theorem sm_lt3 {P : Nat → Prop} (h0 : P 0) (h1 : P 1) (h2 : P 2) : ∀ i, i < 3 → P i := by
  intro i hi
  have e : i = 0 ∨ i = 1 ∨ i = 2 := by omega
  rcases e with rfl | rfl | rfl
  · exact h0
  · exact h1
  · exact h2
section
variable {xv xa xm xs xg xt : Int32} {xr : Int64} {cc ps ng ch : Nat → Int32} {se tb : Nat → Int64}
theorem xs_send {post : SX → Prop} {h : Nat} {T : Nat → Nat → Int} {V : Int} (hh : h ≤ 16) (ht : xt = nI (2 * h)) (hv : xr = fd_c V) (hT : ∀ f, f < 2 → ∀ i, i < 2 * h → tb (32 * f + i) = fd_c (T f i))
    (hp : ∀ s : Nat → Int64, (∀ i, i < 3 → s i = fd_c (sm_v xm V (sm_G T h) i)) → post (xv, xa, xm, xs, xg, xr, xt, cc, ps, ng, ch, s, tb)) :
    wpX_sendMessage post (xv, xa, xm, xs, xg, xr, xt, cc, ps, ng, ch, se, tb) := by
  unfold wpX_sendMessage
  refine xs_honest hh ht hT 0 fd_0.symm (fun s1 e1 => ?_)
  refine xs_honest hh ht hT 1 fd_1.symm (fun s2 e2 => ?_)
  refine xs_honest hh ht hT 2 fd_2.symm (fun s3 e3 => ?_)
  have a0 : s3 0 = fd_c (sm_G T h 0) := by rw [e3, pk_uLn (by decide), e2, pk_uLn (by decide), e1, pk_uLs]
  have a1 : s3 1 = fd_c (sm_G T h 1) := by rw [e3, pk_uLn (by decide), e2, pk_uLs]
  have a2 : s3 2 = fd_c (sm_G T h 2) := by rw [e3, pk_uLs]
  rw [a0, a1]
  refine xs_plus ?_
  subst hv
  refine xs_minus ?_
  by_cases m1 : xm = 1
  · subst m1
    refine br_t rfl (xs_timesH (xs_plus (fun s4 e4 => ?_)))
    have b1 : s4 1 = fd_c (sm_G T h 1) := by rw [e4, pk_uLn (by decide), a1]
    rw [b1]
    refine xs_plus (fun s5 e5 => ?_)
    have b2 : s5 2 = fd_c (sm_G T h 2) := by rw [e5, pk_uLn (by decide), e4, pk_uLn (by decide), a2]
    rw [b2]
    refine xs_plus (fun s6 e6 => hp s6 (sm_lt3 ?_ ?_ ?_))
    · rw [e6, pk_uLn (by decide), e5, pk_uLn (by decide), e4, pk_uLs, sm_v, sm_e1]
    · rw [e6, pk_uLn (by decide), e5, pk_uLs, sm_v, sm_e1]
    · rw [e6, pk_uLs, sm_v, sm_e1]
  · refine br_f m1 ?_
    by_cases m2 : xm = 2
    · subst m2
      refine br_t rfl (xs_plus (fun s4 e4 => ?_))
      have b2 : s4 2 = fd_c (sm_G T h 2) := by rw [e4, pk_uLn (by decide), a2]
      rw [b2]
      refine xs_minus (fun s5 e5 => hp s5 (sm_lt3 ?_ ?_ ?_))
      · rw [e5, pk_uLn (by decide), e4, pk_uLs, sm_v, sm_e20]
      · rw [e5, pk_uLn (by decide), e4, pk_uLn (by decide), a1, sm_v, sm_e21, Int.add_zero]
      · rw [e5, pk_uLs, sm_v, sm_e22, Int.sub_eq_add_neg]
    · refine br_f m2 (hp s3 (sm_lt3 ?_ ?_ ?_))
      · rw [a0, sm_v, sm_e0 m1 m2, Int.add_zero]
      · rw [a1, sm_v, sm_e0 m1 m2, Int.add_zero]
      · rw [a2, sm_v, sm_e0 m1 m2, Int.add_zero]
theorem xs_begin {post : SX → Prop} {h : Nat} {T : Nat → Nat → Int} {V : Int} (hh : h ≤ 16) (ht : xt = nI (2 * h)) (hv : xr = fd_c V) (hT : ∀ f, f < 2 → ∀ i, i < 2 * h → tb (32 * f + i) = fd_c (T f i))
    (hp : ∀ s : Nat → Int64, (∀ i, i < 3 → s i = fd_c (sm_v xm V (sm_G T h) i)) → post (xv, xa, xm, sm_st xm V (sm_G T h), xg, xr, xt, cc, ps, ng, ch, s, tb)) :
    wpX_beginRound post (xv, xa, xm, xs, xg, xr, xt, cc, ps, ng, ch, se, tb) := by
  unfold wpX_beginRound
  refine xs_send hh ht hv hT (fun s hs => ?_)
  have H := hp s hs
  show wpX_plus _ (s 0) (s 1)
  rw [hs 0 (by decide), hs 1 (by decide)]
  refine xs_plus ?_
  subst hv
  by_cases c : fd_c (sm_v xm V (sm_G T h) 0 + sm_v xm V (sm_G T h) 1) = fd_c V
  · refine br_t c ?_
    rw [sm_st, if_pos c] at H
    exact H
  · refine br_f c ?_
    rw [sm_st, if_neg c] at H
    exact H
theorem xs_poly {post : Int64 → Prop} {S : Nat → Int} {w : Int64} (hs : ∀ i, i < 3 → se i = fd_c (S i)) (r : Int) (hw : w = fd_c r) (hp : post (fd_c (sm_N S r))) :
    wpX_sentPolynomialAt post (xv, xa, xm, xs, xg, xr, xt, cc, ps, ng, ch, se, tb) w := by
  subst hw
  unfold wpX_sentPolynomialAt
  show wpX_minus _ (se 1) (se 0)
  rw [hs 0 (by decide), hs 1 (by decide), hs 2 (by decide)]
  refine xs_minus ?_
  refine xs_minus ?_
  refine xs_minus ?_
  refine xs_minus1 ?_
  refine xs_times ?_
  refine xs_timesH ?_
  refine xs_times ?_
  refine xs_times ?_
  refine xs_plus ?_
  refine xs_plus ?_
  exact hp
theorem xs_end {post : SX → Prop} {A B V : Int} (hv : xr = fd_c V) (h0 : tb 0 = fd_c A) (h1 : tb 32 = fd_c B)
    (hp : post (xv, xa, xm, if fd_c V = fd_c (A * B) then 2 else 3, xg, xr, xt, cc, ps, ng, ch, se, tb)) :
    wpX_endRun post (xv, xa, xm, xs, xg, xr, xt, cc, ps, ng, ch, se, tb) := by
  unfold wpX_endRun
  show wpX_times _ (tb 0) (tb 32)
  rw [h0, h1]
  refine xs_times ?_
  subst hv
  by_cases c : fd_c V = fd_c (A * B)
  · rw [if_pos c] at hp
    exact br_t c hp
  · rw [if_neg c] at hp
    exact br_f c hp
end
end
section
/-! the reference's own methods, each against the integers -/
theorem fd_zS1 (x : Int) : (fd_c x - 1).toInt % 2147483647 = (x - 1) % 2147483647 := by
  rw [← fd_1]
  exact fd_zS x 1
theorem fd_zS2 (x : Int) : (fd_c x - 2).toInt % 2147483647 = (x - 2) % 2147483647 := by
  rw [← fd_2]
  exact fd_zS x 2
theorem fd_z1S (x : Int) : (1 - fd_c x).toInt % 2147483647 = (1 - x) % 2147483647 := by
  rw [← fd_1]
  exact fd_zS 1 x
theorem fd_zMH (x : Int) : (fd_c x * 1073741824).toInt % 2147483647 = (x * 1073741824) % 2147483647 := by
  rw [← fd_H]
  exact fd_zM x 1073741824
theorem fd_zA0 (x : Int) : (fd_c x + 0).toInt % 2147483647 = (x + 0) % 2147483647 := by
  rw [← fd_0]
  exact fd_zA x 0
theorem tr_nb (pos neg : Nat → Int32) (b : Nat) (x : Int32) (k : Nat) : narrow .boolean (.int (nI (tr_v pos neg b x k))) = .int (nI (tr_v pos neg b x k)) := by
  rcases tr_vr pos neg b x k with z | z
  · rw [z]
    rfl
  · rw [z]
    rfl
theorem tr_f1 {pos neg : Nat → Int32} {b : Nat} {x : Int32} {k : Nat} (h : tr_v pos neg b x k = 1) : tr_F pos neg b x k := by
  by_cases c : tr_F pos neg b x k
  · exact c
  · rw [tr_v0 c] at h
    exact absurd h (by decide)
theorem tr_s0 {pos neg : Nat → Int32} {b : Nat} {x : Int32} {k : Nat} (h : tr_v pos neg b x k = 0) : tr_v pos neg b x (k + 1) = 0 := by
  apply tr_v0
  intro c
  rw [tr_v1 (fun i hi => c i (by omega))] at h
  exact absurd h (by decide)
theorem tr_s1 {pos neg : Nat → Int32} {b : Nat} {x : Int32} {k : Nat} (h : tr_v pos neg b x k = 1) (g : ¬ tr_n pos neg b x k) : tr_v pos neg b x (k + 1) = 1 := tr_v1 (tr_Fs (tr_f1 h) g)
section
variable {yn yh yd yg : Int32} {yv : Int64} {cl yp yq : Nat → Int32} {sd ak zz : Nat → Int64}
theorem ys_field {post : Int64 → Prop} {x : Int64} (z : Int) (hz : x.toInt % 2147483647 = z % 2147483647) (hp : post (fd_c z)) : wpY_field post (yn, yh, yd, yg, yv, cl, yp, yq, sd, ak, zz) x := by
  refine ⟨by decide, nm_e ?_⟩
  by_cases h : 0 ≤ x - x / 2147483647 * 2147483647
  · refine br_t h ?_
    rw [fd_pos hz (Int64.not_lt.mpr h)]
    exact hp
  · refine br_f h ?_
    rw [fd_neg hz (Int64.not_le.mp h)]
    exact hp
theorem ys_holds_l {post : Int32 → Prop} {f c : Nat} (hf : f < 2) (hc : c ≤ 6) (ec : cl f = nI c) (x : Int32) (hp : post (nI (tr_v yp yq (6 * f) x c))) :
    ∀ d k : Nat, k + d = c → wY_holds_30 post (nI f) x yn yh yd yg yv cl yp yq sd ak zz (d + 1) (nI (tr_v yp yq (6 * f) x k)) (nI k) := by
  have hfi : vp_in (nI f) 2 := vp_in_nI hf (by omega)
  have hfc : cl (nI f).toNatClampNeg = nI c := by rw [nI_clamp (by omega), ec]
  intro d
  induction d with
  | zero =>
    intro k hk
    have e : k = c := by omega
    subst e
    exact ⟨hfi, br_t (by rw [hfc]; exact nI_le (by omega) (by omega)) ⟨tr_nb _ _ _ _ _, hp⟩⟩
  | succ d ih =>
    intro k hk
    have ei : 6 * nI f + nI k = nI (6 * f + k) := by
      rw [show 6 * nI f = nI (6 * f) from pk_mul 6 f, nI_add]
    have hi : vp_in (6 * nI f + nI k) 12 := by rw [ei]; exact vp_in_nI (by omega) (by omega)
    have hcl : (6 * nI f + nI k).toNatClampNeg = 6 * f + k := by rw [ei]; exact nI_clamp (by omega)
    have I := ih (k + 1) (by omega)
    have next : ∀ w : Int32, w = nI (tr_v yp yq (6 * f) x (k + 1)) → ∀ y : Int32, y = nI k + 1 → wY_holds_30 post (nI f) x yn yh yd yg yv cl yp yq sd ak zz (d + 1) w y := by
      intro w ew y ey
      rw [ew, ey, nI_1]
      exact I
    refine ⟨hfi, br_f (by rw [hfc]; exact nI_ge (by omega) (by omega)) (br_f (nI_ge (b := 6) (by omega) (by decide)) ?_)⟩
    rcases tr_vr yp yq (6 * f) x k with z | z
    · rw [z]
      exact br_t rfl (next 0 (by rw [tr_s0 z]; rfl))
    · rw [z]
      refine br_f (by decide) ⟨hi, ?_⟩
      by_cases h1 : x &&& yp (6 * nI f + nI k).toNatClampNeg = 0
      · refine br_t h1 ⟨hi, ?_⟩
        rw [hcl] at h1
        by_cases h2 : (x ^^^ (-1)) &&& yq (6 * nI f + nI k).toNatClampNeg = 0
        · refine br_t h2 (next 0 ?_)
          rw [hcl] at h2
          rw [tr_no (k := k) (by omega) ⟨h1, h2⟩]
          rfl
        · refine br_f h2 (next 1 ?_)
          rw [hcl] at h2
          rw [tr_s1 z (fun g => h2 g.2)]
          rfl
      · refine br_f h1 (next 1 ?_)
        rw [hcl] at h1
        rw [tr_s1 z (fun g => h1 g.1)]
        rfl
theorem ys_holds9 {post : Int32 → Prop} {f c n : Nat} (hf : f < 2) (hn : n < 6) (hc : c ≤ 6) (ec : cl f = nI c) {x : Nat} (hx : x < 2 ^ n) (hp : post (nI (tr_v yp yq (6 * f) (nI x) c))) : wY_holds_9 post (nI f) (nI x) (nI n) yh yd yg yv cl yp yq sd ak zz := by
  have h32 := sv_2 n hn
  refine br_f (nI_pos (by omega)) (br_t (by rw [sv_p n hn]; exact nI_lt hx (by omega)) ⟨c + 1, ?_⟩)
  have H := ys_holds_l (yn := nI n) (yh := yh) (yd := yd) (yg := yg) (yv := yv) (sd := sd) (ak := ak) (zz := zz) hf hc ec (nI x) hp c 0 (by omega)
  rw [tr_v1 (tr_F0 _ _ _ _)] at H
  exact H
theorem ys_holds {post : Int32 → Prop} {f c n : Nat} (hf : f < 2) (hn : n < 6) (hc : c ≤ 6) (ec : cl f = nI c) {x : Nat} (hx : x < 2 ^ n) (hp : post (nI (tr_v yp yq (6 * f) (nI x) c))) : wpY_holds post (nI n, yh, yd, yg, yv, cl, yp, yq, sd, ak, zz) (nI f) (nI x) := by
  have e : f = 0 ∨ f = 1 := by omega
  rcases e with rfl | rfl
  · exact br_t rfl (ys_holds9 hf hn hc ec hx hp)
  · exact br_f (by decide) (br_t rfl (ys_holds9 hf hn hc ec hx hp))
theorem ys_at_in {post : Int64 → Prop} {J5 : Int64 → Int32 → Prop} {x1 : Int32} {S : Int} {x n : Nat} {z : Nat → Int} (hn : n < 6) (hx : x < 32) (hz : ∀ i, i < n → zz i = fd_c (z i)) (hp : J5 (fd_c (S + ml_p z x n)) (nI (x + 1))) :
    ∀ d i : Nat, i + d = n → wY_at_32 post J5 x1 (fd_c S) (nI x) (nI n) yh yd yg yv cl yp yq sd ak zz (d + 1) (fd_c (ml_p z x i)) (nI i) := by
  intro d
  induction d with
  | zero =>
    intro i hi
    have e : i = n := by omega
    subst e
    exact br_t (nI_le (by omega) (by omega)) (ys_field (S + ml_p z x i) (fd_zA _ _) (nm_r (nI_1 x) hp))
  | succ d ih =>
    intro i hi
    have I := ih (i + 1) (by omega)
    have hv : vp_in (nI i) 5 := vp_in_nI (by omega) (by omega)
    have hcl : zz (nI i).toNatClampNeg = fd_c (z i) := by rw [nI_clamp (by omega)]; exact hz i (by omega)
    refine br_f (nI_ge (by omega) (by omega)) ?_
    by_cases hb : x / 2 ^ i % 2 = 1
    · refine br_t (by rw [sv_b hx (by omega), hb]; rfl) ⟨hv, ys_field (ml_p z x (i + 1)) ?_ (nm_r (nI_1 i) I)⟩
      rw [hcl, fd_zM, ml_p, ml_b, if_pos hb]
    · refine br_f ?_ ⟨hv, ys_field (1 - z i) (by rw [hcl]; exact fd_z1S _) (ys_field (ml_p z x (i + 1)) ?_ (nm_r (nI_1 i) I))⟩
      · rw [sv_b hx (by omega)]
        intro e
        have e' : nI (x / 2 ^ i % 2) = nI 1 := e
        rw [nI_eq (by omega) (by omega)] at e'
        exact hb e'
      · rw [fd_zM, ml_p, ml_b, if_neg hb]
theorem ys_at_l {post : Int64 → Prop} {f c n : Nat} {z : Nat → Int} (hf : f < 2) (hn : n < 6) (hc : c ≤ 6) (ec : cl f = nI c) (hz : ∀ i, i < n → zz i = fd_c (z i))
    (hp : post (fd_c (ml_s (fun x => (tr_v yp yq (6 * f) (nI x) c : Int) * ml_p z x n) (2 ^ n)))) :
    ∀ d x : Nat, x + d = 2 ^ n → wY_at_5 post (nI f) (nI n) yh yd yg yv cl yp yq sd ak zz (d + 1) (fd_c (ml_s (fun x => (tr_v yp yq (6 * f) (nI x) c : Int) * ml_p z x n) x)) (nI x) := by
  have h32 := sv_2 n hn
  intro d
  induction d with
  | zero =>
    intro x hx
    have e : x = 2 ^ n := by omega
    subst e
    exact br_t (by rw [sv_p n hn]; exact nI_le (by omega) (by omega)) hp
  | succ d ih =>
    intro x hx
    have I := ih (x + 1) (by omega)
    have es : ml_s (fun x => (tr_v yp yq (6 * f) (nI x) c : Int) * ml_p z x n) (x + 1) = ml_s (fun x => (tr_v yp yq (6 * f) (nI x) c : Int) * ml_p z x n) x + (tr_v yp yq (6 * f) (nI x) c : Int) * ml_p z x n := rfl
    rw [es] at I
    refine br_f (by rw [sv_p n hn]; exact nI_ge (by omega) (by omega)) (ys_holds hf hn hc ec (by omega) ?_)
    rcases tr_vr yp yq (6 * f) (nI x) c with h | h
    · rw [h] at I ⊢
      rw [show ((0 : Nat) : Int) * ml_p z x n = 0 from Int.zero_mul _, Int.add_zero] at I
      exact br_t rfl (nm_r (nI_1 x) I)
    · rw [h] at I ⊢
      rw [show ((1 : Nat) : Int) * ml_p z x n = ml_p z x n from Int.one_mul _] at I
      exact br_f (by decide) ⟨n + 1, ys_at_in hn (by omega) hz I n 0 (by omega)⟩
/-- F~ of formula f at z -/
theorem ys_at {post : Int64 → Prop} {f c n : Nat} {z : Nat → Int} (hf : f < 2) (hn : n < 6) (hc : c ≤ 6) (ec : cl f = nI c) (hz : ∀ i, i < n → zz i = fd_c (z i))
    (hp : post (fd_c (ml_E (fun x => (tr_v yp yq (6 * f) (nI x) c : Int)) z n 0))) : wpY_at post (nI n, yh, yd, yg, yv, cl, yp, yq, sd, ak, zz) (nI f) := by
  rw [← ml_at] at hp
  exact ⟨2 ^ n + 1, ys_at_l hf hn hc ec hz hp (2 ^ n) 0 (by omega)⟩
theorem ys_both {post : Int64 → Prop} {c : Nat → Nat} {n : Nat} {z : Nat → Int} (hn : n < 6) (hc : ∀ f, f < 2 → c f ≤ 6 ∧ cl f = nI (c f)) (hz : ∀ i, i < n → zz i = fd_c (z i))
    (hp : post (fd_c (ml_E (fun x => (tr_v yp yq (6 * 0) (nI x) (c 0) : Int)) z n 0 * ml_E (fun x => (tr_v yp yq (6 * 1) (nI x) (c 1) : Int)) z n 0))) : wpY_both post (nI n, yh, yd, yg, yv, cl, yp, yq, sd, ak, zz) := by
  unfold wpY_both
  refine ys_at (f := 0) (by decide) hn (hc 0 (by decide)).1 (hc 0 (by decide)).2 hz ?_
  refine ys_at (f := 1) (by decide) hn (hc 1 (by decide)).1 (hc 1 (by decide)).2 hz ?_
  exact ys_field _ (fd_zM _ _) hp
end
end
section
/-! a round of the reference: g, the message, its status, the polynomial, the places copied -/
noncomputable def rf_H (yp yq : Nat → Int32) (c : Nat → Nat) (f x : Nat) : Int := (tr_v yp yq (6 * f) (nI x) (c f) : Int)
section
variable {yn yh yd yg : Int32} {yv : Int64} {cl yp yq : Nat → Int32} {sd ak zz : Nat → Int64}
theorem ys_g_in {post : Int64 → SY → Prop} {J5 : Int64 → Int32 → (Nat → Int32) → (Nat → Int32) → (Nat → Int32) → (Nat → Int64) → (Nat → Int64) → (Nat → Int64) → Prop}
    {c : Nat → Nat} {r : Nat → Nat} {n m t q k : Nat} {S : Int} (hn : n < 6) (hm : m + 1 + k = n) (ht : t < 3) (hq : q < 2 ^ k) (hc : ∀ f, f < 2 → c f ≤ 6 ∧ cl f = nI (c f)) (hr : ∀ i, i < m → ak i = fd_c (r i))
    (hp : ∀ z : Nat → Int64, J5 (fd_c (S + ml_f (ml_E (rf_H yp yq c 0) (fun i => r i) m) t q * ml_f (ml_E (rf_H yp yq c 1) (fun i => r i) m) t q)) (nI (q + 1)) cl yp yq sd ak z) :
    ∀ d i : Nat, i + d = n → ∀ z : Nat → Int64, (∀ j, j < i → z j = fd_c (ml_z (fun i => r i) m t q j)) → wY_g_26 post J5 (nI t) (fd_c S) (nI q) (nI n) yh yd (nI m) yv (d + 1) (nI i) cl yp yq sd ak z := by
  have h32 := sv_2 k (by omega)
  intro d
  induction d with
  | zero =>
    intro i hi z hz
    have e : i = n := by omega
    subst e
    refine br_t (nI_le (by omega) (by omega)) (ys_both (c := c) (by omega) hc hz ?_)
    refine ys_field _ (fd_zA _ _) (nm_r (nI_1 q) ?_)
    have H := hp z
    rw [← ml_g (rf_H yp yq c 0) (fun i => r i) m k t hq, ← ml_g (rf_H yp yq c 1) (fun i => r i) m k t hq, hm] at H
    exact H
  | succ d ih =>
    intro i hi z hz
    have hv : vp_in (nI i) 5 := vp_in_nI (by omega) (by omega)
    have hcl : (nI i).toNatClampNeg = i := nI_clamp (by omega)
    have next : ∀ w : Int64, w = fd_c (ml_z (fun i => r i) m t q i) → ∀ z' : Nat → Int64, z' = vp_updL z (nI i).toNatClampNeg w → ∀ y : Int32, y = nI i + 1 → wY_g_26 post J5 (nI t) (fd_c S) (nI q) (nI n) yh yd (nI m) yv (d + 1) y cl yp yq sd ak z' := by
      intro w ew z' ez y ey
      rw [ey, nI_1, ez, hcl]
      refine ih (i + 1) (by omega) _ ?_
      intro j hj
      by_cases e : j = i
      · rw [e, pk_uLs, ew]
      · rw [pk_uLn (by omega)]
        exact hz j (by omega)
    refine br_f (nI_ge (by omega) (by omega)) ?_
    by_cases c1 : m ≤ i
    · refine br_t (nI_le c1 (by omega)) ?_
      by_cases c2 : i = m
      · refine br_t (by rw [c2]) ⟨hv, next _ ?_⟩
        rw [fd_i (by omega), ml_z, if_neg (by omega), if_pos c2]
      · refine br_f (by rw [nI_eq (by omega) (by omega)]; exact c2) ⟨hv, next _ ?_⟩
        have e1 : nI i - nI m - 1 = nI (i - m - 1) := by
          rw [pk_sub c1]
          exact pk_sub (a := i - m) (b := 1) (by omega)
        rw [e1, sv_b (by omega) (by omega), fd_i (by omega), ml_z, if_neg (by omega), if_neg c2]
    · refine br_f (nI_ge (by omega) (by omega)) ⟨hv, hv, next _ ?_⟩
      rw [hcl, ml_z, if_pos (by omega)]
      exact hr i (by omega)
theorem ys_g {post : Int64 → SY → Prop} {c : Nat → Nat} {r : Nat → Nat} {n m k : Nat} (hn : n < 6) (hm : m + 1 + k = n) (t : Nat) (ht : t < 3) (hc : ∀ f, f < 2 → c f ≤ 6 ∧ cl f = nI (c f)) (hr : ∀ i, i < m → ak i = fd_c (r i))
    (hp : ∀ z : Nat → Int64, post (fd_c (sm_G (fun f => ml_E (rf_H yp yq c f) (fun i => r i) m) (2 ^ k) t)) (nI n, yh, yd, nI m, yv, cl, yp, yq, sd, ak, z)) :
    wpY_g post (nI n, yh, yd, nI m, yv, cl, yp, yq, sd, ak, zz) (nI t) := by
  have h32 := sv_2 k (by omega)
  have e1 : (1 : Int32) <<< ((nI n - 1 - nI m) &&& 31) = nI (2 ^ k) := by
    rw [show nI n - 1 = nI (n - 1) from pk_sub (a := n) (b := 1) (by omega), pk_sub (by omega), show n - 1 - m = k by omega]
    exact sv_p k (by omega)
  have H : ∀ d q : Nat, q + d = 2 ^ k → ∀ z : Nat → Int64, wY_g_5 post (nI t) (nI n) yh yd (nI m) yv (d + 1) (fd_c (ml_s (fun j => ml_f (ml_E (rf_H yp yq c 0) (fun i => r i) m) t j * ml_f (ml_E (rf_H yp yq c 1) (fun i => r i) m) t j) q)) (nI q) cl yp yq sd ak z := by
    intro d
    induction d with
    | zero =>
      intro q hq z
      have e : q = 2 ^ k := by omega
      subst e
      exact br_t (by rw [e1]; exact nI_le (by omega) (by omega)) (hp z)
    | succ d ih =>
      intro q hq z
      refine br_f (by rw [e1]; exact nI_ge (by omega) (by omega)) ⟨n + 1, ?_⟩
      exact ys_g_in hn hm ht (by omega) hc hr (fun z' => ih (q + 1) (by omega) z') n 0 (by omega) z (fun j h => absurd h (by omega))
  exact ⟨2 ^ k + 1, H (2 ^ k) 0 (by omega) zz⟩
theorem ys_send146 {post : SY → Prop} {z0 : Int64} {a b V : Int} {S0 S1 : Int} (hz0 : (fd_c a + z0).toInt % 2147483647 = b % 2147483647) (hv : yv = fd_c V) (h0 : sd 0 = fd_c S0) (h1 : sd 1 = fd_c S1)
    (hp : ∀ s : Nat → Int64, (∀ i, i < 3 → s i = if i = 2 then fd_c b else sd i) → post (yn, yh, if fd_c (S0 + S1) = fd_c V then 1 else 3, yg, yv, cl, yp, yq, s, ak, zz)) :
    wY_send_146 post z0 (fd_c a) 2 yn yh yd yg yv cl yp yq sd ak zz := by
  unfold wY_send_146
  refine ys_field b hz0 ⟨vp_in_nI (n := 2) (by decide) (by decide), fun s es => ?_⟩
  have e2 : (2 : Int32).toNatClampNeg = 2 := by decide
  rw [e2] at es
  have a0 : s 0 = fd_c S0 := by rw [es, pk_uLn (by decide), h0]
  have a1 : s 1 = fd_c S1 := by rw [es, pk_uLn (by decide), h1]
  have H := hp s (sm_lt3 (by rw [es, pk_uLn (by decide)]; rfl) (by rw [es, pk_uLn (by decide)]; rfl) (by rw [es, pk_uLs]; rfl))
  rw [a0, a1]
  refine ys_field (S0 + S1) (fd_zA _ _) ?_
  subst hv
  by_cases c : fd_c (S0 + S1) = fd_c V
  · rw [if_pos c] at H
    exact br_t c H
  · rw [if_neg c] at H
    exact br_f c H
theorem ys_send105 {post : SY → Prop} {z0 x7 x9 : Int64} {a b g e V : Int} {S0 : Int} (hz0 : (fd_c a + z0).toInt % 2147483647 = b % 2147483647) (hv : yv = fd_c V) (h0 : sd 0 = fd_c S0) (h7 : x7 = fd_c e) (h9 : x9 = fd_c (e * 1073741824))
    (hp : ∀ s : Nat → Int64, s 0 = fd_c S0 → s 1 = fd_c b → s 2 = fd_c (g + sm_e yh e 2) → post (yn, yh, if fd_c (S0 + b) = fd_c V then 1 else 3, yg, yv, cl, yp, yq, s, ak, zz)) :
    wY_send_105 post (fd_c g) x7 x9 z0 (fd_c a) 1 yn yh yd yg yv cl yp yq sd ak zz := by
  unfold wY_send_105
  refine ys_field b hz0 ⟨vp_in_nI (n := 1) (by decide) (by decide), fun s es => ?_⟩
  have e2 : (1 : Int32).toNatClampNeg = 1 := by decide
  rw [e2] at es
  have a0 : s 0 = fd_c S0 := by rw [es, pk_uLn (by decide), h0]
  have a1 : s 1 = fd_c b := by rw [es, pk_uLs]
  have fin : ∀ w : Int64, (fd_c g + w).toInt % 2147483647 = (g + sm_e yh e 2) % 2147483647 → wY_send_146 post w (fd_c g) 2 yn yh yd yg yv cl yp yq s ak zz := by
    intro w hw
    refine ys_send146 hw hv a0 a1 (fun s' hs' => hp s' ?_ ?_ ?_)
    · rw [hs' 0 (by decide)]
      exact a0
    · rw [hs' 1 (by decide)]
      exact a1
    · exact hs' 2 (by decide)
  by_cases m1 : yh = 1
  · refine br_t m1 (fin _ ?_)
    rw [h9, m1, sm_e1]
    exact fd_zA _ _
  · refine br_f m1 ?_
    by_cases m2 : yh = 2
    · refine br_t m2 (fin _ ?_)
      rw [h7, m2, sm_e22, ← Int.sub_eq_add_neg]
      exact fd_zN _ _
    · refine br_f m2 (fin _ ?_)
      rw [sm_e0 m1 m2]
      exact fd_zA0 _
theorem ys_send79 {post : SY → Prop} {z0 : Int64} {V : Int} {G : Nat → Int} (e : Int) (ee : e = V - (G 0 + G 1)) (hz0 : (fd_c (G 0) + z0).toInt % 2147483647 = sm_v yh V G 0 % 2147483647) (hv : yv = fd_c V)
    (hp : ∀ s : Nat → Int64, (∀ i, i < 3 → s i = fd_c (sm_v yh V G i)) → post (yn, yh, sm_st yh V G, yg, yv, cl, yp, yq, s, ak, zz)) :
    wY_send_79 post (fd_c (G 1)) (fd_c (G 2)) (fd_c e) (fd_c (e * 1073741824)) z0 (fd_c (G 0)) 0 yn yh yd yg yv cl yp yq sd ak zz := by
  unfold wY_send_79
  refine ys_field (sm_v yh V G 0) hz0 ⟨vp_in_nI (n := 0) (by decide) (by decide), fun s es => ?_⟩
  have e2 : (0 : Int32).toNatClampNeg = 0 := by decide
  rw [e2] at es
  have a0 : s 0 = fd_c (sm_v yh V G 0) := by rw [es, pk_uLs]
  have fin : ∀ w : Int64, (fd_c (G 1) + w).toInt % 2147483647 = sm_v yh V G 1 % 2147483647 → wY_send_105 post (fd_c (G 2)) (fd_c e) (fd_c (e * 1073741824)) w (fd_c (G 1)) 1 yn yh yd yg yv cl yp yq s ak zz := by
    intro w hw
    refine ys_send105 hw hv a0 rfl rfl (fun s' h0 h1 h2 => hp s' (sm_lt3 h0 h1 ?_))
    rw [h2, ee]
    rfl
  by_cases m1 : yh = 1
  · refine br_t m1 (fin _ ?_)
    rw [m1, sm_v, sm_e1, ← ee]
    exact fd_zA _ _
  · refine br_f m1 (fin _ ?_)
    by_cases m2 : yh = 2
    · rw [m2, sm_v, sm_e21]
      exact fd_zA0 _
    · rw [sm_v, sm_e0 m1 m2]
      exact fd_zA0 _
theorem ys_send {post : SY → Prop} {c : Nat → Nat} {r : Nat → Nat} {n m k : Nat} {V : Int} (hn : n < 6) (hm : m + 1 + k = n) (hv : yv = fd_c V) (hc : ∀ f, f < 2 → c f ≤ 6 ∧ cl f = nI (c f)) (hr : ∀ i, i < m → ak i = fd_c (r i))
    (hp : ∀ s z : Nat → Int64, (∀ i, i < 3 → s i = fd_c (sm_v yh V (sm_G (fun f => ml_E (rf_H yp yq c f) (fun i => r i) m) (2 ^ k)) i)) → post (nI n, yh, sm_st yh V (sm_G (fun f => ml_E (rf_H yp yq c f) (fun i => r i) m) (2 ^ k)), nI m, yv, cl, yp, yq, s, ak, z)) :
    wpY_send post (nI n, yh, yd, nI m, yv, cl, yp, yq, sd, ak, zz) := by
  unfold wpY_send
  refine ys_g hn hm 0 (by decide) hc hr (fun z1 => ?_)
  refine ys_g hn hm 1 (by decide) hc hr (fun z2 => ?_)
  refine ys_g hn hm 2 (by decide) hc hr (fun z3 => ?_)
  generalize hG : sm_G (fun f => ml_E (rf_H yp yq c f) (fun i => r i) m) (2 ^ k) = G
  rw [hG] at hp
  refine ys_field (V - (G 0 + G 1)) (by rw [hv, fd_zSS, Int.sub_sub]) ?_
  refine ys_field ((V - (G 0 + G 1)) * 1073741824) (fd_zMH _) ?_
  have fin : ∀ w : Int64, (fd_c (G 0) + w).toInt % 2147483647 = sm_v yh V G 0 % 2147483647 → wY_send_79 post (fd_c (G 1)) (fd_c (G 2)) (fd_c (V - (G 0 + G 1))) (fd_c ((V - (G 0 + G 1)) * 1073741824)) w (fd_c (G 0)) 0 (nI n) yh yd (nI m) yv cl yp yq sd ak z3 :=
    fun w hw => ys_send79 _ rfl hw hv (fun s hs => hp s z3 hs)
  by_cases m1 : yh = 1
  · refine br_t m1 (fin _ ?_)
    rw [m1, sm_v, sm_e1]
    exact fd_zA _ _
  · refine br_f m1 ?_
    by_cases m2 : yh = 2
    · refine br_t m2 (fin _ ?_)
      rw [m2, sm_v, sm_e20]
      exact fd_zA _ _
    · refine br_f m2 (fin _ ?_)
      rw [sm_v, sm_e0 m1 m2]
      exact fd_zA0 _
theorem ys_through {post : Int64 → Prop} {S : Nat → Int} {w : Int64} (hs : ∀ i, i < 3 → sd i = fd_c (S i)) (r : Int) (hw : w = fd_c r) (hp : post (fd_c (sm_N S r))) : wpY_through post (yn, yh, yd, yg, yv, cl, yp, yq, sd, ak, zz) w := by
  subst hw
  rw [sm_N, ml_polyc] at hp
  unfold wpY_through
  refine ys_field (r - 1) (fd_zS1 _) ?_
  refine ys_field (r - 2) (fd_zS2 _) ?_
  refine ys_field ((r - 1) * (r - 2)) (fd_zM _ _) ?_
  refine ys_field (r - 2) (fd_zS2 _) ?_
  refine ys_field (r * (r - 2)) (fd_zM _ _) ?_
  refine ys_field (r - 1) (fd_zS1 _) ?_
  refine ys_field (r * (r - 1)) (fd_zM _ _) ?_
  refine ys_field (S 0 * ((r - 1) * (r - 2))) (by rw [hs 0 (by decide)]; exact fd_zM _ _) ?_
  refine ys_field (S 0 * ((r - 1) * (r - 2)) * 1073741824) (fd_zMH _) ?_
  refine ys_field (S 1 * (r * (r - 2))) (by rw [hs 1 (by decide)]; exact fd_zM _ _) ?_
  refine ys_field (S 2 * (r * (r - 1))) (by rw [hs 2 (by decide)]; exact fd_zM _ _) ?_
  refine ys_field (S 2 * (r * (r - 1)) * 1073741824) (fd_zMH _) ?_
  exact ys_field _ (fd_zSA _ _ _) hp
end
end
section
/-! the relation, and the methods that start and end no run -/
/-- a run that is not idle: m challenges r, the running value V, the message S -/
def rl_live (n : Nat) (c : Nat → Nat) (ps ng : Nat → Int32) (st xg xt yg : Int32) (xr yv : Int64) (ch : Nat → Int32) (se tb sd ak : Nat → Int64) : Prop :=
  ∃ (m : Nat) (r : Nat → Nat) (V : Int) (S : Nat → Int), m ≤ n ∧ (st = 1 → m < n) ∧ ¬ st = 0 ∧ xg = nI m ∧ yg = nI m ∧ xr = fd_c V ∧ yv = fd_c V ∧ xt = nI (2 ^ (n - m)) ∧
    (∀ i, i < 3 → se i = fd_c (S i)) ∧ (∀ i, i < 3 → sd i = fd_c (S i)) ∧ (∀ i, i < m → r i < 2147483647 ∧ ch i = nI (r i) ∧ ak i = fd_c (r i)) ∧
    (∀ f, f < 2 → ∀ j, j < 2 ^ (n - m) → tb (32 * f + j) = fd_c (ml_E (rf_H ps ng c f) (fun i => r i) m j))
def i_Rel (_ : Nat) (u : SX) (v : SY) : Prop :=
  ∃ (n : Nat) (c : Nat → Nat) (hw st xg xt yg : Int32) (xr yv : Int64) (cc ps ng ch : Nat → Int32) (se tb sd ak zz : Nat → Int64),
    u = (nI n, nI (2 ^ n), hw, st, xg, xr, xt, cc, ps, ng, ch, se, tb) ∧ v = (nI n, hw, st, yg, yv, cc, ps, ng, sd, ak, zz) ∧ 1 ≤ n ∧ n < 6 ∧ (∀ f, f < 2 → c f ≤ 6 ∧ cc f = nI (c f)) ∧
    ((st = 0 ∧ xg = 0) ∨ rl_live n c ps ng st xg xt yg xr yv ch se tb sd ak)
theorem i_up {k : Nat} {u : SX} {v : SY} (h : i_Rel k u v) : i_Rel (k + 4) u v := h
theorem rl_0 {n : Nat} (h1 : 1 ≤ n) (h6 : n < 6) : i_Rel 1 (nI n, (1 : Int32) <<< (nI n &&& 31), 0, 0, 0, 0, 0, fun _ => 0, fun _ => 0, fun _ => 0, fun _ => 0, fun _ => 0, fun _ => 0) (nI n, 0, 0, 0, 0, fun _ => 0, fun _ => 0, fun _ => 0, fun _ => 0, fun _ => 0, fun _ => 0) := by
  rw [sv_p n h6]
  exact ⟨n, fun _ => 0, 0, 0, 0, 0, 0, 0, 0, _, _, _, _, _, _, _, _, _, rfl, rfl, h1, h6, fun f _ => ⟨Nat.zero_le 6, nI_0.symm⟩, Or.inl ⟨rfl, rfl⟩⟩
theorem i_vc0 (k0 : Int32) : wpX_init (fun u => wpY_init (fun v => i_Rel 1 u v) k0) k0 := by
  by_cases a : 1 ≤ k0
  · refine br_t a ?_
    by_cases b : k0 ≤ 5
    · have h0 : ¬ k0 < 0 := by
        rw [Int32.not_lt]
        exact Int32.le_trans (by decide) a
      obtain ⟨j, hj, rfl⟩ := nI_of h0
      have a' : nI 1 ≤ nI j := a
      have b' : nI j ≤ nI 5 := b
      rw [nI_leI (by omega) (by omega)] at a' b'
      exact br_t b (nm_e (br_t a (br_t b (rl_0 a' (by omega)))))
    · exact br_f b (nm_e (br_t a (br_f b (rl_0 (n := 5) (by decide) (by decide)))))
  · refine br_f a (br_t (by decide) (nm_e (br_f a (rl_0 (n := 1) (by decide) (by decide)))))
section
variable {xv xa xm xs xg xt : Int32} {xr : Int64} {cc ps ng ch : Nat → Int32} {se tb : Nat → Int64}
theorem xs_f1 {post : Int32 → Prop} {f : Nat} (hf : f < 2) (hp : post 1) : wpX_isFormula post (nI f) := by
  have e : f = 0 ∨ f = 1 := by omega
  rcases e with rfl | rfl
  · exact br_t rfl hp
  · exact br_f (by decide) (br_t rfl hp)
theorem xs_f0 {post : Int32 → Prop} {p : Int32} (h0 : ¬ p = 0) (h1 : ¬ p = 1) (hp : post 0) : wpX_isFormula post p := br_f h0 (br_f h1 hp)
theorem xs_v1 {post : Int32 → Prop} {p : Int32} (h : (p.toUInt32 >>> (xv.toUInt32 &&& Int32.toUInt32 31)).toInt32 = 0) (hp : post 1) : wpX_isVariableSet post (xv, xa, xm, xs, xg, xr, xt, cc, ps, ng, ch, se, tb) p := br_t h hp
theorem xs_v0 {post : Int32 → Prop} {p : Int32} (h : ¬ (p.toUInt32 >>> (xv.toUInt32 &&& Int32.toUInt32 31)).toInt32 = 0) (hp : post 0) : wpX_isVariableSet post (xv, xa, xm, xs, xg, xr, xt, cc, ps, ng, ch, se, tb) p := br_f h hp
theorem xs_clause {post : Int32 → SX → Prop} {f c : Nat} {p q : Int32} (hf : f < 2) (hP : (p.toUInt32 >>> (xv.toUInt32 &&& Int32.toUInt32 31)).toInt32 = 0) (hQ : (q.toUInt32 >>> (xv.toUInt32 &&& Int32.toUInt32 31)).toInt32 = 0) (ec : cc f = nI c) (hc : c ≤ 6)
    (h6 : c = 6 → post (-2) (xv, xa, xm, xs, xg, xr, xt, cc, ps, ng, ch, se, tb))
    (hp : c < 6 → post 0 (xv, xa, xm, 0, 0, xr, xt, upd cc f (nI (c + 1)), upd ps (6 * f + c) p, upd ng (6 * f + c) q, ch, se, tb)) : wpX_clause post (xv, xa, xm, xs, xg, xr, xt, cc, ps, ng, ch, se, tb) (nI f) p q := by
  have hfi : vp_in (nI f) 2 := vp_in_nI hf (by omega)
  have hfc : (nI f).toNatClampNeg = f := nI_clamp (by omega)
  have e1 : nI f * 6 + nI c = nI (6 * f + c) := by
    rw [show nI f * 6 = nI (6 * f) by rw [Nat.mul_comm]; exact pk_mul f 6, nI_add]
  have e2 : (nI (6 * f + c)).toNatClampNeg = 6 * f + c := nI_clamp (by omega)
  unfold wpX_clause
  refine xs_f1 hf (br_f (by decide) (xs_v1 hP (br_f (by decide) (xs_v1 hQ (br_f (by decide) ⟨hfi, nm_r (e' := nI c) (by rw [hfc, ec]) ?_⟩)))))
  by_cases g : c < 6
  · have i1 : vp_in (nI (6 * f + c)) 12 := vp_in_nI (by omega) (by omega)
    exact br_t (nI_lt (b := 6) g (by decide)) (nm_r e1 ⟨i1, nm_r (by rw [e2]) ⟨i1, nm_r (by rw [e2]) ⟨hfi, nm_r (by rw [hfc, nI_1]) (hp g)⟩⟩⟩)
  · exact br_f (nI_nlt (b := 6) (by omega) (by omega)) (h6 (by omega))
end
section
variable {yn yh yd yg : Int32} {yv : Int64} {cl yp yq : Nat → Int32} {sd ak zz : Nat → Int64}
theorem ys_clause {post : Int32 → SY → Prop} {f c : Nat} {p q : Int32} (hf : f < 2) (ec : cl f = nI c) (hc : c ≤ 6)
    (hP : ¬ p &&& ((((1 : Int32) <<< (yn &&& 31)) - 1) ^^^ (-1)) = 0 → post (-1) (yn, yh, yd, yg, yv, cl, yp, yq, sd, ak, zz))
    (hQ : p &&& ((((1 : Int32) <<< (yn &&& 31)) - 1) ^^^ (-1)) = 0 → ¬ q &&& ((((1 : Int32) <<< (yn &&& 31)) - 1) ^^^ (-1)) = 0 → post (-1) (yn, yh, yd, yg, yv, cl, yp, yq, sd, ak, zz))
    (h6 : p &&& ((((1 : Int32) <<< (yn &&& 31)) - 1) ^^^ (-1)) = 0 → q &&& ((((1 : Int32) <<< (yn &&& 31)) - 1) ^^^ (-1)) = 0 → c = 6 → post (-2) (yn, yh, yd, yg, yv, cl, yp, yq, sd, ak, zz))
    (hp : p &&& ((((1 : Int32) <<< (yn &&& 31)) - 1) ^^^ (-1)) = 0 → q &&& ((((1 : Int32) <<< (yn &&& 31)) - 1) ^^^ (-1)) = 0 → c < 6 → post 0 (yn, yh, 0, yg, yv, upd cl f (nI (c + 1)), upd yp (6 * f + c) p, upd yq (6 * f + c) q, sd, ak, zz)) : wpY_clause post (yn, yh, yd, yg, yv, cl, yp, yq, sd, ak, zz) (nI f) p q := by
  have hfi : vp_in (nI f) 2 := vp_in_nI hf (by omega)
  have hfc : cl (nI f).toNatClampNeg = nI c := by rw [nI_clamp (by omega), ec]
  have e1 : 6 * nI f + cl (nI f).toNatClampNeg = nI (6 * f + c) := by
    rw [hfc, show 6 * nI f = nI (6 * f) from pk_mul 6 f, nI_add]
  have e2 : (6 * nI f + cl (nI f).toNatClampNeg).toNatClampNeg = 6 * f + c := by
    rw [e1]
    exact nI_clamp (by omega)
  have H : wY_clause_19 post (nI f) p q (((1 : Int32) <<< (yn &&& 31)) - 1) yn yh yd yg yv cl yp yq sd ak zz := by
    refine br_c (fun a => br_c (fun b => ⟨hfi, ?_⟩) (fun b => hQ a b)) hP
    by_cases g : c < 6
    · have i1 : vp_in (6 * nI f + cl (nI f).toNatClampNeg) 12 := by
        rw [e1]
        exact vp_in_nI (by omega) (by omega)
      exact br_t (by rw [hfc]; exact nI_lt (b := 6) g (by decide)) ⟨hfi, i1, nm_r (by rw [e2]) ⟨hfi, i1, nm_r (by rw [e2]) ⟨hfi, hfi, nm_r (by rw [hfc, nI_1, nI_clamp (by omega)]) (hp a b g)⟩⟩⟩
    · exact br_f (by rw [hfc]; exact nI_nlt (b := 6) (by omega) (by omega)) (h6 a b (by omega))
  have e : f = 0 ∨ f = 1 := by omega
  rcases e with rfl | rfl
  · exact nm_e (br_t rfl H)
  · exact nm_e (br_f (by decide) (br_t rfl H))
end
theorem rl_f (p : Int32) : (∃ f : Nat, f < 2 ∧ p = nI f) ∨ (¬ p = 0 ∧ ¬ p = 1) := by
  by_cases h0 : p = 0
  · exact Or.inl ⟨0, by decide, h0⟩
  · by_cases h1 : p = 1
    · exact Or.inl ⟨1, by decide, h1⟩
    · exact Or.inr ⟨h0, h1⟩
theorem rl_cu {cc : Nat → Int32} {c : Nat → Nat} {f d : Nat} (hc : ∀ f, f < 2 → c f ≤ 6 ∧ cc f = nI (c f)) (hd : d ≤ 6) : ∀ g, g < 2 → (if g = f then d else c g) ≤ 6 ∧ upd cc f (nI d) g = nI (if g = f then d else c g) := by
  intro g hg
  by_cases e : g = f
  · rw [if_pos e, e, pk_us]
    exact ⟨hd, rfl⟩
  · rw [if_neg e, pk_un e]
    exact hc g hg
theorem i_vc_clause {k : Nat} {u : SX} {v : SY} (I : i_Rel k u v) (hk : k + 4 ≤ 2049) (v1 : Int32) (v2 : Int32) (v3 : Int32) : wpX_clause (fun r u' => wpY_clause (fun r' v' => r' = r ∧ i_Rel (k + 4) u' v') v v1 v2 v3) u v1 v2 v3 := by
  have J := I
  obtain ⟨n, c, hw, st, xg, xt, yg, xr, yv, cc, ps, ng, ch, se, tb, sd, ak, zz, rfl, rfl, h1, h6, hc, hl⟩ := I
  rcases rl_f v1 with ⟨f, hf, rfl⟩ | ⟨g0, g1⟩
  · have hcf := hc f hf
    have s2 := sv_in h6 v2
    have s3 := sv_in h6 v3
    by_cases a : (v2.toUInt32 >>> ((nI n).toUInt32 &&& Int32.toUInt32 31)).toInt32 = 0
    · by_cases b : (v3.toUInt32 >>> ((nI n).toUInt32 &&& Int32.toUInt32 31)).toInt32 = 0
      · have a' := s2.mp a
        have b' := s3.mp b
        refine xs_clause hf a b hcf.2 hcf.1 (fun e => ?_) (fun e => ?_)
        · exact ys_clause hf hcf.2 hcf.1 (fun z => absurd a' z) (fun _ z => absurd b' z) (fun _ _ _ => ⟨rfl, J⟩) (fun _ _ z => absurd e (by omega))
        · refine ys_clause hf hcf.2 hcf.1 (fun z => absurd a' z) (fun _ z => absurd b' z) (fun _ _ z => absurd e (by omega)) (fun _ _ _ => ⟨rfl, ?_⟩)
          exact ⟨n, fun g => if g = f then c f + 1 else c g, hw, 0, 0, xt, yg, xr, yv, _, _, _, _, _, _, _, _, _, rfl, rfl, h1, h6, rl_cu hc (by omega), Or.inl ⟨rfl, rfl⟩⟩
      · have b' : ¬ v3 &&& ((((1 : Int32) <<< (nI n &&& 31)) - 1) ^^^ (-1)) = 0 := fun z => b (s3.mpr z)
        have a' := s2.mp a
        unfold wpX_clause
        refine xs_f1 hf (br_f (by decide) (xs_v1 a (br_f (by decide) (xs_v0 b (br_t rfl ?_)))))
        exact ys_clause hf hcf.2 hcf.1 (fun z => absurd a' z) (fun _ _ => ⟨rfl, J⟩) (fun _ z => absurd z b') (fun _ z => absurd z b')
    · have a' : ¬ v2 &&& ((((1 : Int32) <<< (nI n &&& 31)) - 1) ^^^ (-1)) = 0 := fun z => a (s2.mpr z)
      unfold wpX_clause
      refine xs_f1 hf (br_f (by decide) (xs_v0 a (br_t rfl ?_)))
      exact ys_clause hf hcf.2 hcf.1 (fun _ => ⟨rfl, J⟩) (fun z => absurd z a') (fun z => absurd z a') (fun z => absurd z a')
  · unfold wpX_clause
    refine xs_f0 g0 g1 (br_t rfl ?_)
    exact nm_e (br_f g0 (br_f g1 ⟨rfl, J⟩))
theorem i_vc_clear {k : Nat} {u : SX} {v : SY} (I : i_Rel k u v) (hk : k + 4 ≤ 2049) (v1 : Int32) : wpX_clear (fun r u' => wpY_clear (fun r' v' => r' = r ∧ i_Rel (k + 4) u' v') v v1) u v1 := by
  have J := I
  obtain ⟨n, c, hw, st, xg, xt, yg, xr, yv, cc, ps, ng, ch, se, tb, sd, ak, zz, rfl, rfl, h1, h6, hc, hl⟩ := I
  unfold wpX_clear
  rcases rl_f v1 with ⟨f, hf, rfl⟩ | ⟨g0, g1⟩
  · have hfi : vp_in (nI f) 2 := vp_in_nI hf (by omega)
    have hfc : (nI f).toNatClampNeg = f := nI_clamp (by omega)
    have eu : upd cc (nI f).toNatClampNeg 0 = upd cc f (nI 0) := by rw [hfc, nI_0]
    refine xs_f1 hf (br_f (by decide) ⟨hfi, nm_r eu ?_⟩)
    have R : i_Rel (k + 4) (nI n, nI (2 ^ n), hw, 0, 0, xr, xt, upd cc f (nI 0), ps, ng, ch, se, tb) (nI n, hw, 0, yg, yv, upd cc f (nI 0), ps, ng, sd, ak, zz) :=
      ⟨n, fun g => if g = f then 0 else c g, hw, 0, 0, xt, yg, xr, yv, _, _, _, _, _, _, _, _, _, rfl, rfl, h1, h6, rl_cu hc (by omega), Or.inl ⟨rfl, rfl⟩⟩
    have H : wY_clear_11 (fun r' v' => r' = 0 ∧ i_Rel (k + 4) (nI n, nI (2 ^ n), hw, 0, 0, xr, xt, upd cc f (nI 0), ps, ng, ch, se, tb) v') (nI f) (nI n) hw st yg yv cc ps ng sd ak zz := ⟨hfi, nm_r eu ⟨rfl, R⟩⟩
    have e : f = 0 ∨ f = 1 := by omega
    rcases e with rfl | rfl
    · exact br_t rfl H
    · exact br_f (by decide) (br_t rfl H)
  · exact xs_f0 g0 g1 (br_t rfl (br_f g0 (br_f g1 ⟨rfl, J⟩)))
end
section
/-! the methods that change nothing, and manner -/
theorem rl_ltA {n : Nat} (h6 : n < 6) {x : Nat} (hx : x < 2 ^ 31) : nI x < nI (2 ^ n) ↔ x < 2 ^ n := nI_ltI hx (by have := sv_2 n h6; omega)
theorem i_vc_holds {k : Nat} {u : SX} {v : SY} (I : i_Rel k u v) (hk : k + 4 ≤ 2049) (v1 : Int32) (v2 : Int32) : wpX_holds (fun r => wpY_holds (fun r' => r' = r ∧ i_Rel (k + 4) u v) v v1 v2) u v1 v2 := by
  have J := I
  obtain ⟨n, c, hw, st, xg, xt, yg, xr, yv, cc, ps, ng, ch, se, tb, sd, ak, zz, rfl, rfl, h1, h6, hc, hl⟩ := I
  unfold wpX_holds
  rcases rl_f v1 with ⟨f, hf, rfl⟩ | ⟨g0, g1⟩
  · refine xs_f1 hf (br_f (by decide) ?_)
    have sp : ∀ post : Int32 → Prop, wY_holds_9 post (nI f) v2 (nI n) hw st yg yv cc ps ng sd ak zz → wpY_holds post (nI n, hw, st, yg, yv, cc, ps, ng, sd, ak, zz) (nI f) v2 := by
      intro post H
      have e : f = 0 ∨ f = 1 := by omega
      rcases e with rfl | rfl
      · exact br_t rfl H
      · exact br_f (by decide) (br_t rfl H)
    by_cases a : v2 < 0
    · exact br_t a (sp _ (br_t a ⟨rfl, J⟩))
    · obtain ⟨x, hx, rfl⟩ := nI_of a
      refine br_f a ?_
      by_cases b : x < 2 ^ n
      · refine br_t ((rl_ltA h6 hx).mpr b) ?_
        refine xs_isTrue hf (hc f hf).1 (hc f hf).2 (nI x) ⟨tr_nb _ _ _ _ _, ?_⟩
        exact ys_holds hf h6 (hc f hf).1 (hc f hf).2 b ⟨rfl, J⟩
      · have b' : ¬ nI x < nI (2 ^ n) := fun z => b ((rl_ltA h6 hx).mp z)
        exact br_f b' (sp _ (br_f a (br_f (by rw [sv_p n h6]; exact b') ⟨rfl, J⟩)))
  · exact xs_f0 g0 g1 (br_t rfl (br_f g0 (br_f g1 ⟨rfl, J⟩)))
/-- how many of the first x assignments make both true -/
noncomputable def ct_n (ps ng : Nat → Int32) (c : Nat → Nat) : Nat → Nat
  | 0 => 0
  | x + 1 => ct_n ps ng c x + tr_v ps ng (6 * 0) (nI x) (c 0) * tr_v ps ng (6 * 1) (nI x) (c 1)
theorem xs_count {xm xs xg xt : Int32} {xv : Int32} {xr : Int64} {cc ps ng ch : Nat → Int32} {se tb : Nat → Int64} {post : Int32 → Prop} {n : Nat} {c : Nat → Nat} (h6 : n < 6) (hc : ∀ f, f < 2 → c f ≤ 6 ∧ cc f = nI (c f)) (hp : post (nI (ct_n ps ng c (2 ^ n)))) :
    wpX_count post (xv, nI (2 ^ n), xm, xs, xg, xr, xt, cc, ps, ng, ch, se, tb) := by
  have h32 := sv_2 n h6
  have H : ∀ d x : Nat, x + d = 2 ^ n → wX_count_4 post xv (nI (2 ^ n)) xm xs xg xr xt cc ps ng ch se tb (d + 1) (nI (ct_n ps ng c x)) (nI x) := by
    intro d
    induction d with
    | zero =>
      intro x hx
      have e : x = 2 ^ n := by omega
      subst e
      exact br_t (nI_le (by omega) (by omega)) hp
    | succ d ih =>
      intro x hx
      have I := ih (x + 1) (by omega)
      have es : ct_n ps ng c (x + 1) = ct_n ps ng c x + tr_v ps ng (6 * 0) (nI x) (c 0) * tr_v ps ng (6 * 1) (nI x) (c 1) := rfl
      rw [es] at I
      refine br_f (nI_ge (by omega) (by omega)) (xs_isTrue (f := 0) (by decide) (hc 0 (by decide)).1 (hc 0 (by decide)).2 (nI x) ?_)
      rcases tr_vr ps ng (6 * 0) (nI x) (c 0) with a | a
      · rw [a] at I ⊢
        rw [Nat.zero_mul, Nat.add_zero] at I
        exact br_t rfl (nm_r (nI_1 x) I)
      · rw [a] at I ⊢
        rw [Nat.one_mul] at I
        refine br_f (by decide) (xs_isTrue (f := 1) (by decide) (hc 1 (by decide)).1 (hc 1 (by decide)).2 (nI x) ?_)
        rcases tr_vr ps ng (6 * 1) (nI x) (c 1) with b | b
        · rw [b] at I ⊢
          rw [Nat.add_zero] at I
          exact br_t rfl (nm_r (nI_1 x) I)
        · rw [b] at I ⊢
          exact br_f (by decide) (nm_r (nI_1 _) (nm_r (nI_1 x) I))
  exact ⟨2 ^ n + 1, H (2 ^ n) 0 (by omega)⟩
theorem ys_count {yh yd yg : Int32} {yv : Int64} {cl ps ng : Nat → Int32} {sd ak zz : Nat → Int64} {post : Int32 → Prop} {n : Nat} {c : Nat → Nat} (h6 : n < 6) (hc : ∀ f, f < 2 → c f ≤ 6 ∧ cl f = nI (c f)) (hp : post (nI (ct_n ps ng c (2 ^ n)))) :
    wpY_count post (nI n, yh, yd, yg, yv, cl, ps, ng, sd, ak, zz) := by
  have h32 := sv_2 n h6
  have H : ∀ d x : Nat, x + d = 2 ^ n → wY_count_4 post (nI n) yh yd yg yv cl ps ng sd ak zz (d + 1) (nI (ct_n ps ng c x)) (nI x) := by
    intro d
    induction d with
    | zero =>
      intro x hx
      have e : x = 2 ^ n := by omega
      subst e
      exact br_t (by rw [sv_p n h6]; exact nI_le (by omega) (by omega)) hp
    | succ d ih =>
      intro x hx
      have I := ih (x + 1) (by omega)
      have es : ct_n ps ng c (x + 1) = ct_n ps ng c x + tr_v ps ng (6 * 0) (nI x) (c 0) * tr_v ps ng (6 * 1) (nI x) (c 1) := rfl
      rw [es] at I
      refine br_f (by rw [sv_p n h6]; exact nI_ge (by omega) (by omega)) (ys_holds (f := 0) (by decide) h6 (hc 0 (by decide)).1 (hc 0 (by decide)).2 (by omega) ?_)
      rcases tr_vr ps ng (6 * 0) (nI x) (c 0) with a | a
      · rw [a] at I ⊢
        rw [Nat.zero_mul, Nat.add_zero] at I
        exact br_t rfl (nm_r (Int32.add_zero _) (nm_r (nI_1 x) I))
      · rw [a] at I ⊢
        rw [Nat.one_mul] at I
        refine br_f (by decide) (ys_holds (f := 1) (by decide) h6 (hc 1 (by decide)).1 (hc 1 (by decide)).2 (by omega) ?_)
        rcases tr_vr ps ng (6 * 1) (nI x) (c 1) with b | b
        · rw [b] at I ⊢
          rw [Nat.add_zero] at I
          exact br_t rfl (nm_r (Int32.add_zero _) (nm_r (nI_1 x) I))
        · rw [b] at I ⊢
          exact br_f (by decide) (nm_r (nI_1 _) (nm_r (nI_1 x) I))
  exact ⟨2 ^ n + 1, H (2 ^ n) 0 (by omega)⟩
theorem i_vc_count {k : Nat} {u : SX} {v : SY} (I : i_Rel k u v) (hk : k + 4 ≤ 2049) : wpX_count (fun r => wpY_count (fun r' => r' = r ∧ i_Rel (k + 4) u v) v) u := by
  have J := I
  obtain ⟨n, c, hw, st, xg, xt, yg, xr, yv, cc, ps, ng, ch, se, tb, sd, ak, zz, rfl, rfl, h1, h6, hc, hl⟩ := I
  exact xs_count h6 hc (ys_count h6 hc ⟨rfl, J⟩)
theorem i_vc_manner {k : Nat} {u : SX} {v : SY} (I : i_Rel k u v) (hk : k + 4 ≤ 2049) (v1 : Int32) : wpX_manner (fun r u' => wpY_manner (fun r' v' => r' = r ∧ i_Rel (k + 4) u' v') v v1) u v1 := by
  have J := I
  obtain ⟨n, c, hw, st, xg, xt, yg, xr, yv, cc, ps, ng, ch, se, tb, sd, ak, zz, rfl, rfl, h1, h6, hc, hl⟩ := I
  by_cases a : v1 < 0
  · exact br_t a (br_t a ⟨rfl, J⟩)
  · by_cases b : v1 ≤ 2
    · exact br_f a (br_t b (br_f a (br_t b ⟨rfl, n, c, v1, st, xg, xt, yg, xr, yv, _, _, _, _, _, _, _, _, _, rfl, rfl, h1, h6, hc, hl⟩)))
    · exact br_f a (br_f b (br_f a (br_f b ⟨rfl, J⟩)))
theorem i_vc_status {k : Nat} {u : SX} {v : SY} (I : i_Rel k u v) (hk : k + 4 ≤ 2049) : wpX_status (fun r => wpY_status (fun r' => r' = r ∧ i_Rel (k + 4) u v) v) u := by
  have J := I
  obtain ⟨n, c, hw, st, xg, xt, yg, xr, yv, cc, ps, ng, ch, se, tb, sd, ak, zz, rfl, rfl, h1, h6, hc, hl⟩ := I
  exact ⟨rfl, J⟩
theorem i_vc_round {k : Nat} {u : SX} {v : SY} (I : i_Rel k u v) (hk : k + 4 ≤ 2049) : wpX_round (fun r => wpY_round (fun r' => r' = r ∧ i_Rel (k + 4) u v) v) u := by
  have J := I
  obtain ⟨n, c, hw, st, xg, xt, yg, xr, yv, cc, ps, ng, ch, se, tb, sd, ak, zz, rfl, rfl, h1, h6, hc, hl⟩ := I
  rcases hl with ⟨e1, e2⟩ | ⟨m, r, V, S, hm, hs1, hs0, e1, e2, _⟩
  · exact br_t e1 ⟨e2.symm, J⟩
  · exact br_f hs0 ⟨e2.trans e1.symm, J⟩
theorem i_vc_message {k : Nat} {u : SX} {v : SY} (I : i_Rel k u v) (hk : k + 4 ≤ 2049) (v1 : Int32) : wpX_message (fun r => wpY_message (fun r' => r' = r ∧ i_Rel (k + 4) u v) v v1) u v1 := by
  have J := I
  obtain ⟨n, c, hw, st, xg, xt, yg, xr, yv, cc, ps, ng, ch, se, tb, sd, ak, zz, rfl, rfl, h1, h6, hc, hl⟩ := I
  rcases hl with ⟨e1, _⟩ | ⟨m, r, V, S, hm, hs1, hs0, e1, e2, e3, e4, e5, e6, e7, _⟩
  · exact br_t e1 (br_t e1 ⟨rfl, J⟩)
  · refine br_f hs0 ?_
    by_cases a : v1 < 0
    · exact br_t a (br_f hs0 (br_t a ⟨rfl, J⟩))
    · obtain ⟨x, hx, rfl⟩ := nI_of a
      refine br_f a ?_
      by_cases b : x < 3
      · have hi : vp_in (nI x) 3 := vp_in_nI b (by decide)
        refine br_t (nI_lt (b := 3) b (by decide)) ⟨hi, br_f hs0 (br_f a (br_t (nI_le (b := 2) (by omega) (by decide)) ⟨hi, ?_, J⟩))⟩
        rw [nI_clamp hx, e6 x b, e7 x b]
      · exact br_f (nI_nlt (b := 3) (by omega) hx) (br_f hs0 (br_f a (br_f (nI_ge (a := 2) (by omega) hx) ⟨rfl, J⟩)))
theorem i_vc_running {k : Nat} {u : SX} {v : SY} (I : i_Rel k u v) (hk : k + 4 ≤ 2049) : wpX_running (fun r => wpY_running (fun r' => r' = r ∧ i_Rel (k + 4) u v) v) u := by
  have J := I
  obtain ⟨n, c, hw, st, xg, xt, yg, xr, yv, cc, ps, ng, ch, se, tb, sd, ak, zz, rfl, rfl, h1, h6, hc, hl⟩ := I
  rcases hl with ⟨e1, _⟩ | ⟨m, r, V, S, hm, hs1, hs0, e1, e2, e3, e4, _⟩
  · exact br_t e1 (br_t e1 ⟨rfl, J⟩)
  · refine br_f hs0 (br_f hs0 ⟨?_, J⟩)
    rw [e3, e4]
theorem i_vc_challengeAt {k : Nat} {u : SX} {v : SY} (I : i_Rel k u v) (hk : k + 4 ≤ 2049) (v1 : Int32) : wpX_challengeAt (fun r => wpY_challengeAt (fun r' => r' = r ∧ i_Rel (k + 4) u v) v v1) u v1 := by
  have J := I
  obtain ⟨n, c, hw, st, xg, xt, yg, xr, yv, cc, ps, ng, ch, se, tb, sd, ak, zz, rfl, rfl, h1, h6, hc, hl⟩ := I
  rcases hl with ⟨e1, _⟩ | ⟨m, r, V, S, hm, hs1, hs0, rfl, rfl, e3, e4, e5, e6, e7, e8, _⟩
  · exact br_t e1 (br_t e1 ⟨rfl, J⟩)
  · refine br_f hs0 ?_
    by_cases a : v1 < 0
    · exact br_t a (br_f hs0 (br_t a ⟨rfl, J⟩))
    · obtain ⟨x, hx, rfl⟩ := nI_of a
      refine br_f a ?_
      by_cases b : x < m
      · have hi : vp_in (nI x) 5 := vp_in_nI (by omega) (by decide)
        have hb : nI x < nI m := nI_lt b (by omega)
        refine br_t hb ⟨hi, br_f hs0 (br_f a (br_t hb ⟨hi, ?_, J⟩))⟩
        obtain ⟨q1, q2, q3⟩ := e8 x b
        rw [nI_clamp hx, q2, q3, fd_back q1]
      · have hb : ¬ nI x < nI m := nI_nlt (by omega) hx
        exact br_f hb (br_f hs0 (br_f a (br_f hb ⟨rfl, J⟩)))
end
section
/-! start, challenge, extension -/
theorem rl_fe (p : Int32) : p < 0 ∨ (¬ p < 0 ∧ p = 2147483647) ∨ ∃ x : Nat, x < 2147483647 ∧ p = nI x := by
  by_cases a : p < 0
  · exact Or.inl a
  · obtain ⟨x, hx, rfl⟩ := nI_of a
    by_cases b : x < 2147483647
    · exact Or.inr (Or.inr ⟨x, b, rfl⟩)
    · have e : x = 2147483647 := by omega
      exact Or.inr (Or.inl ⟨a, by rw [e]; rfl⟩)
theorem xs_fe1 {post : Int32 → Prop} {x : Nat} (hx : x < 2147483647) (hp : post 1) : wpX_isFieldElement post (nI x) := by
  refine br_f (nI_pos (by omega)) (br_f ?_ hp)
  rw [fd_i hx, Int64.le_iff_toInt_le, fd_pT, fd_t]
  omega
theorem xs_fem {post : Int32 → Prop} {p : Int32} (h : p < 0) (hp : post 0) : wpX_isFieldElement post p := br_t h hp
theorem xs_feP {post : Int32 → Prop} {p : Int32} (h : ¬ p < 0) (e : p = 2147483647) (hp : post 0) : wpX_isFieldElement post p := by
  refine br_f h (br_t ?_ hp)
  rw [e]
  decide
theorem rl_neP {x : Nat} (hx : x < 2147483647) : ¬ nI x = 2147483647 := by
  intro e
  have e' : nI x = nI 2147483647 := e
  rw [nI_eq (by omega) (by decide)] at e'
  omega
theorem sm_stc (how : Int32) (V : Int) (G : Nat → Int) : sm_st how V G = 1 ∨ sm_st how V G = 3 := by
  unfold sm_st
  split
  · exact Or.inl rfl
  · exact Or.inr rfl
theorem sm_stn (how : Int32) (V : Int) (G : Nat → Int) : ¬ sm_st how V G = 0 := by
  rcases sm_stc how V G with h | h
  · rw [h]
    decide
  · rw [h]
    decide
theorem rl_2 {n m : Nat} (h : m < n) : 2 ^ (n - m) = 2 * 2 ^ (n - m - 1) := by
  rw [show n - m = (n - m - 1) + 1 by omega, Nat.pow_succ, Nat.mul_comm, Nat.add_sub_cancel]
theorem i_vc_start {k : Nat} {u : SX} {v : SY} (I : i_Rel k u v) (hk : k + 4 ≤ 2049) (v1 : Int32) : wpX_start (fun r u' => wpY_start (fun r' v' => r' = r ∧ i_Rel (k + 4) u' v') v v1) u v1 := by
  have J := I
  obtain ⟨n, c, hw, st, xg, xt, yg, xr, yv, cc, ps, ng, ch, se, tb, sd, ak, zz, rfl, rfl, h1, h6, hc, hl⟩ := I
  unfold wpX_start
  rcases rl_fe v1 with a | ⟨a, b⟩ | ⟨x, hx, rfl⟩
  · exact xs_fem a (br_t rfl (br_t a ⟨rfl, J⟩))
  · exact xs_feP a b (br_t rfl (br_f a (br_t b ⟨rfl, J⟩)))
  · have e2 : 2 ^ n = 2 * 2 ^ (n - 1) := rl_2 (n := n) (m := 0) (by omega)
    have h32 := sv_2 n h6
    refine xs_fe1 hx (br_f (by decide) ?_)
    refine xs_fill (f := 0) (c := c 0) (by decide) h6 (hc 0 (by decide)).1 (hc 0 (by decide)).2 (fun t0 a0 b0 => ?_)
    refine xs_fill (f := 1) (c := c 1) (by decide) h6 (hc 1 (by decide)).1 (hc 1 (by decide)).2 (fun t1 a1 b1 => ?_)
    have hT : ∀ f, f < 2 → ∀ j, j < 2 ^ n → t1 (32 * f + j) = fd_c (ml_E (rf_H ps ng c f) (fun i => (((fun _ => 0) : Nat → Nat) i : Int)) 0 j) := by
      intro f hf j hj
      have e : f = 0 ∨ f = 1 := by omega
      rcases e with rfl | rfl
      · rw [b1 (32 * 0 + j) (by omega), a0 j hj]
        rfl
      · rw [a1 j hj]
        rfl
    refine xs_begin (h := 2 ^ (n - 1)) (V := x) (T := fun f => ml_E (rf_H ps ng c f) (fun i => (((fun _ => 0) : Nat → Nat) i : Int)) 0) (by omega) (by rw [e2]) (fd_i hx) (fun f hf j hj => hT f hf j (by omega)) (fun s hs => ?_)
    refine br_f (nI_pos (by omega)) (br_f (rl_neP hx) ?_)
    refine ys_send (m := 0) (k := n - 1) (V := x) (c := c) (r := fun _ => 0) h6 (by omega) (fd_i hx) hc (fun i hi => absurd hi (by omega)) (fun s' z' hs' => ⟨rfl, ?_⟩)
    refine ⟨n, c, hw, _, 0, nI (2 ^ n), 0, (nI x).toInt64, (nI x).toInt64, cc, ps, ng, ch, s, t1, s', ak, z', rfl, rfl, h1, h6, hc, Or.inr ?_⟩
    exact ⟨0, fun _ => 0, x, _, by omega, fun _ => by omega, sm_stn _ _ _, rfl, rfl, fd_i hx, fd_i hx, rfl, hs, hs', fun i hi => absurd hi (by omega), hT⟩
/-- the reference sets its places to the challenges -/
theorem ys_cp71 {post : Int32 → SY → Prop} {n : Nat} {c : Nat → Nat} {r : Nat → Nat} {yh yd yg : Int32} {yv : Int64} {cl yp yq : Nat → Int32} {sd ak zz : Nat → Int64} {V : Int} (hn : n < 6) (hv : yv = fd_c V) (hc : ∀ f, f < 2 → c f ≤ 6 ∧ cl f = nI (c f)) (hr : ∀ i, i < n → ak i = fd_c (r i))
    (hp : ∀ z : Nat → Int64, post (if fd_c V = fd_c (ml_E (rf_H yp yq c 0) (fun i => r i) n 0 * ml_E (rf_H yp yq c 1) (fun i => r i) n 0) then 2 else 3) (nI n, yh, if fd_c V = fd_c (ml_E (rf_H yp yq c 0) (fun i => r i) n 0 * ml_E (rf_H yp yq c 1) (fun i => r i) n 0) then 2 else 3, yg, yv, cl, yp, yq, sd, ak, z)) :
    ∃ N : Nat, wY_challenge_71 post (nI n) yh yd yg yv N 0 cl yp yq sd ak zz := by
  have H : ∀ d i : Nat, i + d = n → ∀ z : Nat → Int64, (∀ j, j < i → z j = fd_c (r j)) → wY_challenge_71 post (nI n) yh yd yg yv (d + 1) (nI i) cl yp yq sd ak z := by
    intro d
    induction d with
    | zero =>
      intro i hi z hz
      have e : i = n := by omega
      subst e
      refine br_t (nI_le (by omega) (by omega)) (ys_both (c := c) (z := fun j => r j) hn hc hz ?_)
      have Q := hp z
      subst hv
      by_cases g : fd_c V = fd_c (ml_E (rf_H yp yq c 0) (fun i => r i) i 0 * ml_E (rf_H yp yq c 1) (fun i => r i) i 0)
      · rw [if_pos g] at Q
        exact br_t g.symm Q
      · rw [if_neg g] at Q
        exact br_f (fun q => g q.symm) Q
    | succ d ih =>
      intro i hi z hz
      have hv : vp_in (nI i) 5 := vp_in_nI (by omega) (by omega)
      have hcl : (nI i).toNatClampNeg = i := nI_clamp (by omega)
      refine br_f (nI_ge (by omega) (by omega)) ⟨hv, hv, fun z' ez => nm_r (nI_1 i) (ih (i + 1) (by omega) z' ?_)⟩
      intro j hj
      rw [ez, hcl]
      by_cases e : j = i
      · rw [e, pk_uLs]
        exact hr i (by omega)
      · rw [pk_uLn (by omega)]
        exact hz j (by omega)
  exact ⟨n + 1, H n 0 (by omega) zz (fun j hj => absurd hj (by omega))⟩
theorem ys_cp31 {post : Int32 → SY → Prop} {n f : Nat} {c : Nat → Nat} {r : Nat → Nat} {yh yd yg : Int32} {yv : Int64} {cl yp yq : Nat → Int32} {sd ak zz : Nat → Int64} (hf : f < 2) (hn : n < 6) (hc : ∀ f, f < 2 → c f ≤ 6 ∧ cl f = nI (c f)) (hr : ∀ i, i < n → ak i = fd_c (r i))
    (hp : ∀ z : Nat → Int64, post (fd_c (ml_E (rf_H yp yq c f) (fun i => r i) n 0)).toInt32 (nI n, yh, yd, yg, yv, cl, yp, yq, sd, ak, z)) :
    ∃ N : Nat, wY_extension_31 post (nI f) (nI n) yh yd yg yv N 0 cl yp yq sd ak zz := by
  have H : ∀ d i : Nat, i + d = n → ∀ z : Nat → Int64, (∀ j, j < i → z j = fd_c (r j)) → wY_extension_31 post (nI f) (nI n) yh yd yg yv (d + 1) (nI i) cl yp yq sd ak z := by
    intro d
    induction d with
    | zero =>
      intro i hi z hz
      have e : i = n := by omega
      subst e
      exact br_t (nI_le (by omega) (by omega)) (ys_at (z := fun j => r j) hf hn (hc f hf).1 (hc f hf).2 hz (hp z))
    | succ d ih =>
      intro i hi z hz
      have hv : vp_in (nI i) 5 := vp_in_nI (by omega) (by omega)
      have hcl : (nI i).toNatClampNeg = i := nI_clamp (by omega)
      refine br_f (nI_ge (by omega) (by omega)) ⟨hv, hv, fun z' ez => nm_r (nI_1 i) (ih (i + 1) (by omega) z' ?_)⟩
      intro j hj
      rw [ez, hcl]
      by_cases e : j = i
      · rw [e, pk_uLs]
        exact hr i (by omega)
      · rw [pk_uLn (by omega)]
        exact hz j (by omega)
  exact ⟨n + 1, H n 0 (by omega) zz (fun j hj => absurd hj (by omega))⟩
theorem i_vc_extension {k : Nat} {u : SX} {v : SY} (I : i_Rel k u v) (hk : k + 4 ≤ 2049) (v1 : Int32) : wpX_extension (fun r => wpY_extension (fun r' v' => r' = r ∧ i_Rel (k + 4) u v') v v1) u v1 := by
  have J := I
  obtain ⟨n, c, hw, st, xg, xt, yg, xr, yv, cc, ps, ng, ch, se, tb, sd, ak, zz, rfl, rfl, h1, h6, hc, hl⟩ := I
  have hl' := hl
  rcases hl with ⟨e1, _⟩ | ⟨m, r, V, S, hm, hs1, hs0, rfl, rfl, e3, e4, e5, e6, e7, e8, e9⟩
  · exact br_t e1 (br_t e1 ⟨rfl, J⟩)
  · unfold wpX_extension
    refine br_f hs0 ?_
    rcases rl_f v1 with ⟨f, hf, rfl⟩ | ⟨g0, g1⟩
    · refine xs_f1 hf (br_f (by decide) ?_)
      by_cases b : n ≤ m
      · have e : m = n := by omega
        subst e
        have ei : nI f * 32 = nI (32 * f) := by rw [Nat.mul_comm]; exact pk_mul f 32
        have hi : vp_in (nI f * 32) 64 := by rw [ei]; exact vp_in_nI (by omega) (by omega)
        have ht : tb (nI f * 32).toNatClampNeg = fd_c (ml_E (rf_H ps ng c f) (fun i => r i) m 0) := by
          rw [ei, nI_clamp (by omega)]
          exact e9 f hf 0 (Nat.two_pow_pos _)
        have H : ∃ N : Nat, wY_extension_31 (fun r' v' => r' = (tb (nI f * 32).toNatClampNeg).toInt32 ∧ i_Rel (k + 4) (nI m, nI (2 ^ m), hw, st, nI m, xr, xt, cc, ps, ng, ch, se, tb) v') (nI f) (nI m) hw st (nI m) yv N 0 cc ps ng sd ak zz :=
          ys_cp31 hf h6 hc (fun i hi => (e8 i hi).2.2) (fun z => ⟨by rw [ht], ⟨m, c, hw, st, nI m, xt, nI m, xr, yv, cc, ps, ng, ch, se, tb, sd, ak, z, rfl, rfl, h1, h6, hc, hl'⟩⟩)
        refine br_t (nI_le (by omega) (by omega)) ⟨hi, br_f hs0 (br_f (nI_nlt (by omega) (by omega)) ?_)⟩
        have e : f = 0 ∨ f = 1 := by omega
        rcases e with rfl | rfl
        · exact br_t rfl H
        · exact br_f (by decide) (br_t rfl H)
      · exact br_f (nI_ge (by omega) (by omega)) (br_f hs0 (br_t (nI_lt (by omega) (by omega)) ⟨rfl, J⟩))
    · refine xs_f0 g0 g1 (br_t rfl (br_f hs0 ?_))
      exact br_c (fun _ => ⟨rfl, J⟩) (fun _ => br_f g0 (br_f g1 ⟨rfl, J⟩))
end
section
/-! challenge -/
theorem rl_bind (H : Nat → Int) (r : Nat → Nat) (m x j : Nat) : ml_f (ml_E H (fun i => (r i : Int)) m) (x : Int) j = ml_E H (fun i => (((fun i => if i = m then x else r i) : Nat → Nat) i : Int)) (m + 1) j := by
  have e : ml_E H (fun i => (((fun i => if i = m then x else r i) : Nat → Nat) i : Int)) m = ml_E H (fun i => (r i : Int)) m := by
    apply ml_E_c
    intro i hi
    show ((if i = m then x else r i : Nat) : Int) = (r i : Int)
    rw [if_neg (by omega)]
  show _ = ml_f (ml_E H (fun i => (((fun i => if i = m then x else r i) : Nat → Nat) i : Int)) m) ((if m = m then x else r m : Nat) : Int) j
  rw [e, if_pos rfl]
theorem rl_asked {r : Nat → Nat} {m x : Nat} {ch : Nat → Int32} {ak : Nat → Int64} (hx : x < 2147483647) (h : ∀ i, i < m → r i < 2147483647 ∧ ch i = nI (r i) ∧ ak i = fd_c (r i)) :
    ∀ i, i < m + 1 → (fun i => if i = m then x else r i) i < 2147483647 ∧ upd ch m (nI x) i = nI ((fun i => if i = m then x else r i) i) ∧ vp_updL ak m (fd_c x) i = fd_c ((fun i => if i = m then x else r i) i : Nat) := by
  intro i hi
  show (if i = m then x else r i) < 2147483647 ∧ upd ch m (nI x) i = nI (if i = m then x else r i) ∧ vp_updL ak m (fd_c x) i = fd_c ((if i = m then x else r i : Nat) : Int)
  by_cases e : i = m
  · rw [if_pos e, e, pk_us, pk_uLs]
    exact ⟨hx, rfl, rfl⟩
  · rw [if_neg e, pk_un e, pk_uLn e]
    exact h i (by omega)
theorem i_vc_challenge {k : Nat} {u : SX} {v : SY} (I : i_Rel k u v) (hk : k + 4 ≤ 2049) (v1 : Int32) : wpX_challenge (fun r u' => wpY_challenge (fun r' v' => r' = r ∧ i_Rel (k + 4) u' v') v v1) u v1 := by
  have J := I
  obtain ⟨n, c, hw, st, xg, xt, yg, xr, yv, cc, ps, ng, ch, se, tb, sd, ak, zz, rfl, rfl, h1, h6, hc, hl⟩ := I
  unfold wpX_challenge
  by_cases a : st = 1
  · rcases hl with ⟨e1, _⟩ | ⟨m, r, V, S, hm, hs1, hs0, rfl, rfl, e3, e4, rfl, e6, e7, e8, e9⟩
    · exact absurd (e1.symm.trans a) (by decide)
    · have hmn := hs1 a
      subst a
      refine br_t rfl ?_
      rcases rl_fe v1 with b | ⟨b, b'⟩ | ⟨x, hx, rfl⟩
      · exact xs_fem b (br_t rfl (br_t rfl (br_t b ⟨rfl, J⟩)))
      · exact xs_feP b b' (br_t rfl (br_t rfl (br_f b (br_t b' ⟨rfl, J⟩))))
      · have e2 : 2 ^ (n - m) = 2 * 2 ^ (n - m - 1) := rl_2 hmn
        have h32 := sv_2 (n - m) (by omega)
        have hcm : (nI m).toNatClampNeg = m := nI_clamp (by omega)
        have him : vp_in (nI m) 5 := vp_in_nI (by omega) (by omega)
        have ehalf : nI (2 ^ (n - m)) / 2 = nI (2 ^ (n - (m + 1))) := by
          rw [e2, xs_half (by omega), show n - (m + 1) = n - m - 1 by omega]
        have hr := rl_asked hx e8
        refine xs_fe1 hx (br_f (by decide) ?_)
        refine xs_poly e6 x (fd_i hx) ⟨him, nm_r (e' := upd ch m (nI x)) (by rw [hcm]) (nm_r (nI_1 m) ?_)⟩
        refine xs_bind (f := 0) (h := 2 ^ (n - m - 1)) (T := ml_E (rf_H ps ng c 0) (fun i => r i) m) (by decide) (by omega) (by rw [e2]) (fun i hi => e9 0 (by decide) i (by omega)) x (fd_i hx) (fun t0 a0 b0 => ?_)
        refine xs_bind (f := 1) (h := 2 ^ (n - m - 1)) (T := ml_E (rf_H ps ng c 1) (fun i => r i) m) (by decide) (by omega) (by rw [e2]) (fun i hi => (b0 (32 * 1 + i) (by omega)).trans (e9 1 (by decide) i (by omega))) x (fd_i hx) (fun t1 a1 b1 => ?_)
        have hT : ∀ f, f < 2 → ∀ j, j < 2 ^ (n - (m + 1)) → t1 (32 * f + j) = fd_c (ml_E (rf_H ps ng c f) (fun i => (((fun i => if i = m then x else r i) : Nat → Nat) i : Int)) (m + 1) j) := by
          intro f hf j hj
          rw [show n - (m + 1) = n - m - 1 by omega] at hj
          rw [← rl_bind]
          have e : f = 0 ∨ f = 1 := by omega
          rcases e with rfl | rfl
          · rw [b1 (32 * 0 + j) (by omega), a0 j hj]
          · rw [a1 j hj]
        have ey : ∀ post : Int32 → SY → Prop, (wpY_through (fun r_7 => (((nI n ≤ nI (m + 1) → (∃ N : Nat, wY_challenge_71 post (nI n) hw 1 (nI (m + 1)) r_7 N 0 cc ps ng sd (vp_updL ak m (fd_c x)) zz)) ∧ (¬ nI n ≤ nI (m + 1) → (wpY_send (fun u => match u with | (f_n, f_how, f_doing, f_given, f_value, a_clauses, a_pos, a_neg, a_said, a_asked, a_z) => (post f_doing (f_n, f_how, f_doing, f_given, f_value, a_clauses, a_pos, a_neg, a_said, a_asked, a_z))) (nI n, hw, 1, nI (m + 1), r_7, cc, ps, ng, sd, vp_updL ak m (fd_c x), zz)))))) (nI n, hw, 1, nI (m + 1), yv, cc, ps, ng, sd, vp_updL ak m (fd_c x), zz) (nI x).toInt64) → wpY_challenge post (nI n, hw, 1, nI m, yv, cc, ps, ng, sd, ak, zz) (nI x) := by
          intro post H
          exact br_t rfl (br_f (nI_pos (by omega)) (br_f (rl_neP hx) ⟨him, nm_r (by rw [hcm, fd_i hx]) (nm_r (nI_1 m) H)⟩))
        refine ⟨by decide, nm_r ehalf ?_⟩
        by_cases g : n ≤ m + 1
        · have en : m + 1 = n := by omega
          have g' : nI n ≤ nI (m + 1) := nI_le g (by omega)
          have z0 : 0 < 2 ^ (n - (m + 1)) := Nat.two_pow_pos _
          refine br_t g' (xs_end (V := sm_N S x) rfl (hT 0 (by decide) 0 z0) (hT 1 (by decide) 0 z0) ?_)
          refine ey _ (ys_through e7 x (fd_i hx) (br_t g' ?_))
          refine ys_cp71 (V := sm_N S x) (c := c) (r := fun i => if i = m then x else r i) h6 rfl hc (fun i hi => (hr i (by omega)).2.2) (fun z => ?_)
          rw [en]
          rw [en] at hT hr
          refine ⟨rfl, n, c, hw, _, nI n, nI (2 ^ (n - n)), nI n, fd_c (sm_N S x), fd_c (sm_N S x), cc, ps, ng, upd ch m (nI x), se, t1, sd, vp_updL ak m (fd_c x), z, rfl, rfl, h1, h6, hc, Or.inr ?_⟩
          refine ⟨n, fun i => if i = m then x else r i, sm_N S x, S, by omega, ?_, ?_, rfl, rfl, rfl, rfl, rfl, e6, e7, hr, hT⟩
          · split
            · exact fun q => absurd q (by decide)
            · exact fun q => absurd q (by decide)
          · split
            · decide
            · decide
        · have g' : ¬ nI n ≤ nI (m + 1) := nI_ge (by omega) (by omega)
          have e3 : 2 ^ (n - (m + 1)) = 2 * 2 ^ (n - (m + 1) - 1) := rl_2 (by omega)
          have h33 := sv_2 (n - (m + 1)) (by omega)
          refine br_f g' ?_
          refine xs_begin (h := 2 ^ (n - (m + 1) - 1)) (V := sm_N S x) (T := fun f => ml_E (rf_H ps ng c f) (fun i => (((fun i => if i = m then x else r i) : Nat → Nat) i : Int)) (m + 1)) (by omega) (by rw [e3]) rfl (fun f hf j hj => hT f hf j (by omega)) (fun s hs => ?_)
          refine ey _ (ys_through e7 x (fd_i hx) (br_f g' ?_))
          refine ys_send (m := m + 1) (k := n - (m + 1) - 1) (V := sm_N S x) (c := c) (r := fun i => if i = m then x else r i) h6 (by omega) rfl hc (fun i hi => (hr i hi).2.2) (fun s' z' hs' => ⟨rfl, ?_⟩)
          refine ⟨n, c, hw, _, nI (m + 1), nI (2 ^ (n - (m + 1))), nI (m + 1), fd_c (sm_N S x), fd_c (sm_N S x), cc, ps, ng, upd ch m (nI x), s, t1, s', vp_updL ak m (fd_c x), z', rfl, rfl, h1, h6, hc, Or.inr ?_⟩
          exact ⟨m + 1, fun i => if i = m then x else r i, sm_N S x, _, by omega, fun _ => by omega, sm_stn _ _ _, rfl, rfl, rfl, rfl, rfl, hs, hs', hr, hT⟩
  · exact br_f a (br_f a ⟨rfl, J⟩)
end
