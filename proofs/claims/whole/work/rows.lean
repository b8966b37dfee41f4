section
/-! rows of kit/rows, as they stand there -/
theorem pk_us {f : Nat → Int32} {k : Nat} {x : Int32} : upd f k x k = x := if_pos rfl
theorem pk_un {f : Nat → Int32} {k j : Nat} {x : Int32} (h : j ≠ k) : upd f k x j = f j := if_neg h
theorem pk_uLs {f : Nat → Int64} {k : Nat} {x : Int64} : vp_updL f k x k = x := if_pos rfl
theorem pk_uLn {f : Nat → Int64} {k j : Nat} {x : Int64} (h : j ≠ k) : vp_updL f k x j = f j := if_neg h
theorem pk_sub {a b : Nat} (h : b ≤ a) : nI a - nI b = nI (a - b) := by
  obtain ⟨c, rfl⟩ : ∃ c, a = c + b := ⟨a - b, by omega⟩
  rw [← nI_add, Int32.add_sub_cancel, Nat.add_sub_cancel]
theorem pk_mul (a b : Nat) : nI a * nI b = nI (a * b) := (Int32.ofNat_mul a b).symm
theorem pk_div {a d : Nat} (ha : a < 2 ^ 31) (h0 : 0 < d) (hd : d < 2 ^ 31) : nI a / nI d = nI (a / d) := by
  apply Int32.toInt_inj.mp
  rw [lg_idiv_nonneg (by rw [nI_toInt ha]; omega) (by rw [nI_toInt hd]; omega), nI_toInt ha, nI_toInt hd, nI_toInt (Nat.lt_of_le_of_lt (Nat.div_le_self a d) ha)]
  first | rfl | exact (Int.natCast_ediv _ _).symm
theorem pk_rem {a d : Nat} (ha : a < 2 ^ 31) (h0 : 0 < d) (hd : d < 2 ^ 31) : nI a - nI a / nI d * nI d = nI (a % d) := by
  rw [pk_div ha h0 hd, pk_mul, pk_sub (Nat.div_mul_le_self a d)]
  exact congrArg nI (by have := Nat.div_add_mod' a d; omega)
theorem pk_ix (x : Int32) {n : Nat} (hn : n < 2 ^ 31) : x < 0 ∨ nI n ≤ x ∨ ∃ j : Nat, j < n ∧ x = nI j := by
  by_cases h : x < 0
  · exact Or.inl h
  · obtain ⟨j, hj, rfl⟩ := nI_of h
    by_cases h2 : j < n
    · exact Or.inr (Or.inr ⟨j, h2, rfl⟩)
    · exact Or.inr (Or.inl (nI_le (by omega) hj))
theorem pk_le {x y : Int32} {A B : Prop} (a b : Nat) (f : a ≤ b → A) (g : b < a → B) (hx : x = nI a := by rfl) (hy : y = nI b := by rfl) (ha : a < 2 ^ 31 := by omega) (hb : b < 2 ^ 31 := by omega) : (x ≤ y → A) ∧ (¬ x ≤ y → B) := by
  subst hx hy
  rw [nI_leI ha hb]
  exact ⟨f, fun z => g (by omega)⟩
theorem pk_lt {x y : Int32} {A B : Prop} (a b : Nat) (f : a < b → A) (g : b ≤ a → B) (hx : x = nI a := by rfl) (hy : y = nI b := by rfl) (ha : a < 2 ^ 31 := by omega) (hb : b < 2 ^ 31 := by omega) : (x < y → A) ∧ (¬ x < y → B) := by
  subst hx hy
  rw [nI_ltI ha hb]
  exact ⟨f, fun z => g (by omega)⟩
theorem pk_eq {x y : Int32} {A B : Prop} (a b : Nat) (f : a = b → A) (g : a ≠ b → B) (hx : x = nI a := by rfl) (hy : y = nI b := by rfl) (ha : a < 2 ^ 31 := by omega) (hb : b < 2 ^ 31 := by omega) : (x = y → A) ∧ (¬ x = y → B) := by
  subst hx hy
  rw [nI_eq ha hb]
  exact ⟨f, g⟩
theorem pk_in {x : Int32} (n N : Nat) (h : n < N) (hx : x = nI n := by rfl) (hN : N < 2 ^ 31 := by omega) : vp_in x N := by
  subst hx
  exact vp_in_nI h hN
theorem pk_cl {x : Int32} (n : Nat) (hx : x = nI n := by rfl) (h : n < 2 ^ 31 := by omega) : x.toNatClampNeg = n := by
  subst hx
  exact nI_clamp h
theorem pk_tn {n : Nat} (h : n < 2 ^ 32) : (nI n).toBitVec.toNat = n := Nat.mod_eq_of_lt h
theorem pk_and (x : Int32) {m : Int32} (k : Nat) (hm : m.toBitVec.toNat = 2 ^ k - 1) : x &&& m = nI (x.toBitVec.toNat % 2 ^ k) := by
  apply Int32.toBitVec_inj.mp
  apply BitVec.eq_of_toNat_eq
  rw [Int32.toBitVec_and, BitVec.toNat_and, hm, Nat.and_two_pow_sub_one_eq_mod]
  show _ = (BitVec.ofNat 32 _).toNat
  rw [BitVec.toNat_ofNat]
  exact (Nat.mod_eq_of_lt (Nat.lt_of_le_of_lt (Nat.mod_le _ _) x.toBitVec.isLt)).symm
theorem pk_andN {n : Nat} (h : n < 2 ^ 32) {m : Int32} (k : Nat) (hm : m.toBitVec.toNat = 2 ^ k - 1) : nI n &&& m = nI (n % 2 ^ k) := by
  rw [pk_and _ k hm, pk_tn h]
theorem pk_shl (a s : Int32) (k : Nat) (hs : (s.toBitVec.smod 32).toNat = k) : (a <<< s).toBitVec.toNat = a.toBitVec.toNat * 2 ^ k % 2 ^ 32 := by
  show (a.toBitVec <<< (s.toBitVec.smod 32).toNat).toNat = _
  rw [hs, BitVec.toNat_shiftLeft, Nat.shiftLeft_eq]
theorem pk_shlN {n : Nat} (s : Int32) (k : Nat) (hs : (s.toBitVec.smod 32).toNat = k) (h : n * 2 ^ k < 2 ^ 32) : nI n <<< s = nI (n * 2 ^ k) := by
  apply Int32.toBitVec_inj.mp
  apply BitVec.eq_of_toNat_eq
  have hn : n < 2 ^ 32 := Nat.lt_of_le_of_lt (Nat.le_mul_of_pos_right n (Nat.two_pow_pos k)) h
  rw [pk_shl _ _ k hs, pk_tn hn, pk_tn h, Nat.mod_eq_of_lt h]
theorem pk_shr (a s : Int32) (k : Nat) (hs : (s.toBitVec.smod 32).toNat = k) : (a >>> s).toInt = a.toInt >>> k := by
  show (a.toBitVec.sshiftRight (s.toBitVec.smod 32).toNat).toInt = _
  rw [hs, BitVec.toInt_sshiftRight]
  rfl
theorem pk_shrN {n : Nat} (h : n < 2 ^ 31) (s : Int32) (k : Nat) (hs : (s.toBitVec.smod 32).toNat = k) : nI n >>> s = nI (n / 2 ^ k) := by
  apply Int32.toInt_inj.mp
  have h2 : n / 2 ^ k ≤ n := Nat.div_le_self _ _
  rw [pk_shr _ _ k hs, nI_toInt h, nI_toInt (by omega), Int.shiftRight_eq_div_pow]
  rfl
theorem pk_ushr (x s : Int32) (k : Nat) (hs : ((s.toUInt32 &&& Int32.toUInt32 31).toBitVec % 32).toNat = k) : (x.toUInt32 >>> (s.toUInt32 &&& Int32.toUInt32 31)).toInt32.toBitVec.toNat = x.toBitVec.toNat / 2 ^ k := by
  have e : (x.toUInt32 >>> (s.toUInt32 &&& Int32.toUInt32 31)).toInt32.toBitVec = x.toBitVec >>> k := by
    rw [← hs]
    exact UInt32.toBitVec_shiftRight _ _
  rw [e, BitVec.toNat_ushiftRight, Nat.shiftRight_eq_div_pow]
theorem pk_loop {σ : Type} (W : Nat → Nat → σ → Prop) (I : Nat → σ → Prop) (e i0 : Nat) (s : σ) (hi : i0 ≤ e) (h0 : I i0 s) (hx : ∀ n s, I e s → W (n + 1) e s)
    (hs : ∀ n i s, i < e → I i s → (∀ s', I (i + 1) s' → W n (i + 1) s') → W (n + 1) i s) : ∃ n, W n i0 s :=
  ⟨e + 1, loop_i W I e hx hs (e + 1) i0 s hi (by omega) h0⟩
def bt (x : Int32) (i : Nat) : Bool := x.toBitVec.getLsbD i
theorem b_ext {x y : Int32} (h : ∀ i, i < 32 → bt x i = bt y i) : x = y := Int32.toBitVec_inj.mp (BitVec.eq_of_getLsbD_eq (fun i hi => h i hi))
theorem b_and (x y : Int32) (i : Nat) : bt (x &&& y) i = (bt x i && bt y i) := by unfold bt; rw [Int32.toBitVec_and, BitVec.getLsbD_and]
theorem b_xor (x y : Int32) (i : Nat) : bt (x ^^^ y) i = (bt x i ^^ bt y i) := by unfold bt; rw [Int32.toBitVec_xor, BitVec.getLsbD_xor]
theorem b_big {x : Int32} {i : Nat} (h : 32 ≤ i) : bt x i = false := BitVec.getLsbD_of_ge _ _ h
theorem b_m1 : ∀ i, i < 32 → bt (-1) i = true := by decide +kernel
theorem b_0 (i : Nat) : bt 0 i = false := BitVec.getLsbD_zero
theorem s_l : ∀ n, n < 32 → ((nI n &&& 31).toBitVec.smod 32).toNat = n := by decide +kernel
theorem s_u : ∀ n, n < 32 → (((nI n).toUInt32 &&& Int32.toUInt32 31).toBitVec % 32).toNat = n := by decide +kernel
theorem b_ushr (n : Nat) (hn : n < 32) (x : Int32) (i : Nat) : bt ((x.toUInt32 >>> ((nI n).toUInt32 &&& Int32.toUInt32 31)).toInt32) i = bt x (n + i) := by
  show (x.toUInt32 >>> ((nI n).toUInt32 &&& Int32.toUInt32 31)).toBitVec.getLsbD i = x.toUInt32.toBitVec.getLsbD (n + i)
  rw [UInt32.toBitVec_shiftRight]
  show (x.toUInt32.toBitVec >>> (((nI n).toUInt32 &&& Int32.toUInt32 31).toBitVec % 32).toNat).getLsbD i = _
  rw [s_u n hn, BitVec.getLsbD_ushiftRight]
end
section
/-! the field: every element is fd_c z of an integer z, and the operations of both classes are those of the integers -/
def fd_c (z : Int) : Int64 := Int64.ofInt (z % 2147483647)
theorem fd_t (z : Int) : (fd_c z).toInt = z % 2147483647 := by
  have a : 0 ≤ z % 2147483647 ∧ z % 2147483647 < 2147483647 := by omega
  exact Int64.toInt_ofInt_of_le (by omega) (by omega)
theorem fd_eq {a b : Int} (h : a % 2147483647 = b % 2147483647) : fd_c a = fd_c b := by
  unfold fd_c
  rw [h]
theorem fd_pT : (2147483647 : Int64).toInt = 2147483647 := by decide
theorem fd_rem {x : Int64} {z : Int} (h0 : 0 ≤ x.toInt) (hz : x.toInt % 2147483647 = z % 2147483647) : x - x / 2147483647 * 2147483647 = fd_c z := by
  apply Int64.toInt_inj.mp
  rw [Jvm.Kit.i64_rem_nonneg h0, fd_t, fd_pT, hz]
theorem fd_plus (x y : Int) : fd_c x + fd_c y - (fd_c x + fd_c y) / 2147483647 * 2147483647 = fd_c (x + y) := by
  have e : (fd_c x + fd_c y).toInt = x % 2147483647 + y % 2147483647 := by
    rw [Jvm.Kit.i64_add (by rw [fd_t, fd_t]; omega) (by rw [fd_t, fd_t]; omega), fd_t, fd_t]
  exact fd_rem (by rw [e]; omega) (by rw [e]; omega)
theorem fd_minus (x y : Int) : fd_c x - fd_c y + 2147483647 - (fd_c x - fd_c y + 2147483647) / 2147483647 * 2147483647 = fd_c (x - y) := by
  have e1 : (fd_c x - fd_c y).toInt = x % 2147483647 - y % 2147483647 := by
    rw [Jvm.Kit.i64_sub (by rw [fd_t, fd_t]; omega) (by rw [fd_t, fd_t]; omega), fd_t, fd_t]
  have e : (fd_c x - fd_c y + 2147483647).toInt = x % 2147483647 - y % 2147483647 + 2147483647 := by
    rw [Jvm.Kit.i64_add (by rw [e1, fd_pT]; omega) (by rw [e1, fd_pT]; omega), e1, fd_pT]
  exact fd_rem (by rw [e]; omega) (by rw [e]; omega)
theorem fd_mulb {a b : Int} (ha : 0 ≤ a ∧ a < 2147483647) (hb : 0 ≤ b ∧ b < 2147483647) : 0 ≤ a * b ∧ a * b < 4611686018427387904 := by
  refine ⟨Int.mul_nonneg ha.1 hb.1, ?_⟩
  have h : a * b ≤ 2147483647 * 2147483647 := Int.mul_le_mul (by omega) (by omega) hb.1 (by decide)
  omega
theorem fd_mT (x y : Int) : (fd_c x * fd_c y).toInt = (x % 2147483647) * (y % 2147483647) := by
  have h := fd_mulb (a := x % 2147483647) (b := y % 2147483647) (by omega) (by omega)
  rw [Jvm.Kit.i64_mul (by rw [fd_t, fd_t]; omega) (by rw [fd_t, fd_t]; omega), fd_t, fd_t]
theorem fd_times (x y : Int) : fd_c x * fd_c y - fd_c x * fd_c y / 2147483647 * 2147483647 = fd_c (x * y) := by
  have h := fd_mulb (a := x % 2147483647) (b := y % 2147483647) (by omega) (by omega)
  exact fd_rem (by rw [fd_mT]; exact h.1) (by rw [fd_mT]; exact (Int.mul_emod x y _).symm)
/-- the reference's remainder, which may be below nought, then mended -/
theorem fd_rT (x : Int64) : (x - x / 2147483647 * 2147483647).toInt = x.toInt.tmod 2147483647 := by
  rw [Jvm.Kit.i64_rem, fd_pT]
theorem fd_tm {a : Int} (h : a < 0) : a.tmod 2147483647 = - ((-a) % 2147483647) := by
  have e : a = - (- a) := by omega
  rw [e, Int.neg_tmod, Int.tmod_eq_emod_of_nonneg (by omega)]
  rw [Int.neg_neg]
theorem fd_neg {x : Int64} {z : Int} (hz : x.toInt % 2147483647 = z % 2147483647) (h : x - x / 2147483647 * 2147483647 < 0) : x - x / 2147483647 * 2147483647 + 2147483647 = fd_c z := by
  have h0 : (0 : Int64).toInt = 0 := by decide
  rw [Int64.lt_iff_toInt_lt, fd_rT, h0] at h
  have hx : x.toInt < 0 := by
    rcases Int.lt_or_le x.toInt 0 with g | g
    · exact g
    · rw [Int.tmod_eq_emod_of_nonneg g] at h
      omega
  rw [fd_tm hx] at h
  have e : (x - x / 2147483647 * 2147483647).toInt = - ((- x.toInt) % 2147483647) := by rw [fd_rT, fd_tm hx]
  apply Int64.toInt_inj.mp
  rw [Jvm.Kit.i64_add (by rw [e, fd_pT]; omega) (by rw [e, fd_pT]; omega), e, fd_pT, fd_t, ← hz]
  omega
theorem fd_pos {x : Int64} {z : Int} (hz : x.toInt % 2147483647 = z % 2147483647) (h : ¬ x - x / 2147483647 * 2147483647 < 0) : x - x / 2147483647 * 2147483647 = fd_c z := by
  have h0 : (0 : Int64).toInt = 0 := by decide
  rw [Int64.lt_iff_toInt_lt, fd_rT, h0] at h
  apply Int64.toInt_inj.mp
  rw [fd_rT, fd_t, ← hz]
  rcases Int.lt_or_le x.toInt 0 with g | g
  · rw [fd_tm g] at h ⊢
    omega
  · rw [Int.tmod_eq_emod_of_nonneg g]
/-- what the reference's field is given, as integers -/
theorem fd_aT (x y : Int) : (fd_c x + fd_c y).toInt = x % 2147483647 + y % 2147483647 := by
  rw [Jvm.Kit.i64_add (by rw [fd_t, fd_t]; omega) (by rw [fd_t, fd_t]; omega), fd_t, fd_t]
theorem fd_sT (x y : Int) : (fd_c x - fd_c y).toInt = x % 2147483647 - y % 2147483647 := by
  rw [Jvm.Kit.i64_sub (by rw [fd_t, fd_t]; omega) (by rw [fd_t, fd_t]; omega), fd_t, fd_t]
theorem fd_zA (x y : Int) : (fd_c x + fd_c y).toInt % 2147483647 = (x + y) % 2147483647 := by
  rw [fd_aT]
  omega
theorem fd_zS (x y : Int) : (fd_c x - fd_c y).toInt % 2147483647 = (x - y) % 2147483647 := by
  rw [fd_sT]
  omega
theorem fd_zM (x y : Int) : (fd_c x * fd_c y).toInt % 2147483647 = (x * y) % 2147483647 := by
  rw [fd_mT]
  exact (Int.mul_emod x y _).symm
theorem fd_zSS (x y z : Int) : (fd_c x - fd_c y - fd_c z).toInt % 2147483647 = (x - y - z) % 2147483647 := by
  rw [Jvm.Kit.i64_sub (by rw [fd_sT, fd_t]; omega) (by rw [fd_sT, fd_t]; omega), fd_sT, fd_t]
  omega
theorem fd_zSA (x y z : Int) : (fd_c x - fd_c y + fd_c z).toInt % 2147483647 = (x - y + z) % 2147483647 := by
  rw [Jvm.Kit.i64_add (by rw [fd_sT, fd_t]; omega) (by rw [fd_sT, fd_t]; omega), fd_sT, fd_t]
  omega
theorem fd_nT (x : Int) : (- fd_c x).toInt = - (x % 2147483647) := by
  rw [Jvm.Kit.i64_neg (by rw [fd_t]; omega), fd_t]
theorem fd_zN (x y : Int) : (fd_c x + (- fd_c y)).toInt % 2147483647 = (x - y) % 2147483647 := by
  rw [Jvm.Kit.i64_add (by rw [fd_t, fd_nT]; omega) (by rw [fd_t, fd_nT]; omega), fd_t, fd_nT]
  omega
/-- ints that are elements -/
theorem fd_i {n : Nat} (h : n < 2147483647) : (nI n).toInt64 = fd_c n := by
  apply Int64.toInt_inj.mp
  rw [Jvm.Kit.i64_of_i32, nI_toInt (by omega), fd_t]
  omega
theorem fd_0 : fd_c 0 = 0 := by decide
theorem fd_1 : fd_c 1 = 1 := by decide
theorem fd_2 : fd_c 2 = 2 := by decide
theorem fd_H : fd_c 1073741824 = 1073741824 := by decide
theorem fd_back {n : Nat} (h : n < 2147483647) : (fd_c n).toInt32 = nI n := by
  rw [← fd_i h]
  exact lg_l2i_i2l _
end
section
/-! the multilinear extension, over the integers -/
def ml_f (h : Nat → Int) (z : Int) (j : Nat) : Int := h (2 * j) + (h (2 * j + 1) - h (2 * j)) * z
/-- the table after m challenges -/
def ml_E (h r : Nat → Int) : Nat → Nat → Int
  | 0 => h
  | m + 1 => ml_f (ml_E h r m) (r m)
def ml_b (z : Nat → Int) (x i : Nat) : Int := if x / 2 ^ i % 2 = 1 then z i else 1 - z i
/-- the weight of the assignment x, by the first i variables -/
def ml_p (z : Nat → Int) (x : Nat) : Nat → Int
  | 0 => 1
  | i + 1 => ml_p z x i * ml_b z x i
def ml_s (f : Nat → Int) : Nat → Int
  | 0 => 0
  | n + 1 => ml_s f n + f n
theorem ml_s_e {f g : Nat → Int} : ∀ n : Nat, (∀ i, i < n → f i = g i) → ml_s f n = ml_s g n := by
  intro n
  induction n with
  | zero => intro _; rfl
  | succ n ih =>
    intro h
    show ml_s f n + f n = ml_s g n + g n
    rw [ih (fun i hi => h i (by omega)), h n (by omega)]
theorem ml_s_2 (f : Nat → Int) : ∀ n : Nat, ml_s f (2 * n) = ml_s (fun j => f (2 * j) + f (2 * j + 1)) n := by
  intro n
  induction n with
  | zero => rfl
  | succ n ih =>
    have e : 2 * (n + 1) = 2 * n + 1 + 1 := by omega
    rw [e]
    show ml_s f (2 * n) + f (2 * n) + f (2 * n + 1) = ml_s (fun j => f (2 * j) + f (2 * j + 1)) n + (f (2 * n) + f (2 * n + 1))
    rw [ih, Int.add_assoc]
theorem ml_bit (x i : Nat) : x / 2 ^ (i + 1) % 2 = x / 2 / 2 ^ i % 2 := by
  rw [Nat.div_div_eq_div_mul, Nat.pow_succ, Nat.mul_comm]
theorem ml_b_s (z : Nat → Int) (x i : Nat) : ml_b z x (i + 1) = ml_b (fun k => z (k + 1)) (x / 2) i := by
  unfold ml_b
  rw [ml_bit]
theorem ml_p_s (z : Nat → Int) (x : Nat) : ∀ d : Nat, ml_p z x (d + 1) = ml_b z x 0 * ml_p (fun k => z (k + 1)) (x / 2) d := by
  intro d
  induction d with
  | zero =>
    show 1 * ml_b z x 0 = ml_b z x 0 * 1
    rw [Int.one_mul, Int.mul_one]
  | succ d ih =>
    show ml_p z x (d + 1) * ml_b z x (d + 1) = ml_b z x 0 * (ml_p (fun k => z (k + 1)) (x / 2) d * ml_b (fun k => z (k + 1)) (x / 2) d)
    rw [ih, ml_b_s, Int.mul_assoc]
theorem ml_b_e (z : Nat → Int) (j : Nat) : ml_b z (2 * j) 0 = 1 - z 0 := by
  unfold ml_b
  rw [if_neg (by rw [Nat.pow_zero]; omega)]
theorem ml_b_o (z : Nat → Int) (j : Nat) : ml_b z (2 * j + 1) 0 = z 0 := by
  unfold ml_b
  rw [if_pos (by rw [Nat.pow_zero]; omega)]
theorem ml_alg (a b z p : Int) : a * ((1 - z) * p) + b * (z * p) = (a + (b - a) * z) * p := by grind
theorem ml_step (h z : Nat → Int) (d : Nat) : ml_s (fun x => h x * ml_p z x (d + 1)) (2 ^ (d + 1)) = ml_s (fun j => ml_f h (z 0) j * ml_p (fun k => z (k + 1)) j d) (2 ^ d) := by
  have e : 2 ^ (d + 1) = 2 * 2 ^ d := by rw [Nat.pow_succ, Nat.mul_comm]
  rw [e, ml_s_2]
  apply ml_s_e
  intro j _
  have e0 : 2 * j / 2 = j := by omega
  have e1 : (2 * j + 1) / 2 = j := by omega
  show h (2 * j) * ml_p z (2 * j) (d + 1) + h (2 * j + 1) * ml_p z (2 * j + 1) (d + 1) = ml_f h (z 0) j * ml_p (fun k => z (k + 1)) j d
  rw [ml_p_s, ml_p_s, e0, e1, ml_b_e, ml_b_o, ml_alg]
  rfl
theorem ml_E_s (h r : Nat → Int) : ∀ m : Nat, ml_E (ml_f h (r 0)) (fun k => r (k + 1)) m = ml_E h r (m + 1) := by
  intro m
  induction m with
  | zero => rfl
  | succ m ih =>
    show ml_f (ml_E (ml_f h (r 0)) (fun k => r (k + 1)) m) (r (m + 1)) = ml_f (ml_E h r (m + 1)) (r (m + 1))
    rw [ih]
/-- the sum over the assignments is the table's last entry -/
theorem ml_at : ∀ (d : Nat) (h z : Nat → Int), ml_s (fun x => h x * ml_p z x d) (2 ^ d) = ml_E h z d 0 := by
  intro d
  induction d with
  | zero =>
    intro h z
    show 0 + h 0 * 1 = h 0
    rw [Int.zero_add, Int.mul_one]
  | succ d ih =>
    intro h z
    rw [ml_step, ih, ml_E_s]
theorem ml_E_c (h : Nat → Int) {r z : Nat → Int} : ∀ m : Nat, (∀ i, i < m → z i = r i) → ml_E h z m = ml_E h r m := by
  intro m
  induction m with
  | zero => intro _; rfl
  | succ m ih =>
    intro e
    show ml_f (ml_E h z m) (z m) = ml_f (ml_E h r m) (r m)
    rw [ih (fun i hi => e i (by omega)), e m (by omega)]
theorem ml_E_h {h h' : Nat → Int} (r : Nat → Int) : ∀ (m d : Nat), (∀ i, i < 2 ^ (m + d) → h i = h' i) → ∀ j, j < 2 ^ d → ml_E h r m j = ml_E h' r m j := by
  intro m
  induction m with
  | zero =>
    intro d e j hj
    exact e j (by rw [Nat.zero_add]; exact hj)
  | succ m ih =>
    intro d e j hj
    have e2 : 2 ^ (d + 1) = 2 * 2 ^ d := by rw [Nat.pow_succ, Nat.mul_comm]
    have H := ih (d + 1) (fun i hi => e i (by rw [show m + 1 + d = m + (d + 1) by omega]; exact hi))
    show ml_f (ml_E h r m) (r m) j = ml_f (ml_E h' r m) (r m) j
    unfold ml_f
    rw [H (2 * j) (by omega), H (2 * j + 1) (by omega)]
/-- bits in the place of the free variables pick an entry -/
theorem ml_E_b (h z : Nat → Int) (m q : Nat) : ∀ k : Nat, (∀ i, i < k → z (m + i) = ((q / 2 ^ i % 2 : Nat) : Int)) → ∀ j, ml_E h z (m + k) j = ml_E h z m (j * 2 ^ k + q % 2 ^ k) := by
  intro k
  induction k with
  | zero =>
    intro _ j
    rw [Nat.pow_zero, Nat.mod_one, Nat.mul_one]
    rfl
  | succ k ih =>
    intro e j
    have H := ih (fun i hi => e i (by omega))
    show ml_f (ml_E h z (m + k)) (z (m + k)) j = _
    unfold ml_f
    rw [H, H, e k (by omega), Nat.mod_pow_succ, Nat.pow_succ]
    have hb : q / 2 ^ k % 2 = 0 ∨ q / 2 ^ k % 2 = 1 := by omega
    rcases hb with hb | hb
    · rw [hb]
      have e1 : j * (2 ^ k * 2) + (q % 2 ^ k + 2 ^ k * 0) = 2 * j * 2 ^ k + q % 2 ^ k := by
        rw [Nat.mul_zero, Nat.add_zero, Nat.mul_comm (2 ^ k) 2, ← Nat.mul_assoc, Nat.mul_comm j 2]
      rw [e1]
      simp
    · rw [hb]
      have e1 : j * (2 ^ k * 2) + (q % 2 ^ k + 2 ^ k * 1) = (2 * j + 1) * 2 ^ k + q % 2 ^ k := by
        rw [Nat.add_mul, Nat.one_mul, Nat.mul_one, Nat.mul_comm (2 ^ k) 2, ← Nat.mul_assoc, Nat.mul_comm j 2]
        omega
      rw [e1]
      simp
      omega
/-- what the reference sets its places to in the round after m challenges -/
def ml_z (r : Nat → Int) (m : Nat) (t : Int) (q i : Nat) : Int := if i < m then r i else if i = m then t else ((q / 2 ^ (i - m - 1) % 2 : Nat) : Int)
theorem ml_g (h r : Nat → Int) (m d : Nat) (t : Int) {q : Nat} (hq : q < 2 ^ d) : ml_E h (ml_z r m t q) (m + 1 + d) 0 = ml_f (ml_E h r m) t q := by
  rw [ml_E_b h (ml_z r m t q) (m + 1) q d, Nat.zero_mul, Nat.zero_add, Nat.mod_eq_of_lt hq]
  · show ml_f (ml_E h (ml_z r m t q) m) (ml_z r m t q m) q = _
    have e : ml_z r m t q m = t := by
      unfold ml_z
      rw [if_neg (by omega), if_pos rfl]
    rw [e, ml_E_c h (r := r) m]
    intro i hi
    unfold ml_z
    rw [if_pos hi]
  · intro i _
    unfold ml_z
    rw [if_neg (by omega), if_neg (by omega), show m + 1 + i - m - 1 = i by omega]
/-- Newton's form and Lagrange's differ by a multiple of the modulus -/
theorem ml_poly (a b c r : Int) : (a + (b - a) * r + ((c - b) - (b - a)) * (r * (r - 1) * 1073741824)) = (a * ((r - 1) * (r - 2)) * 1073741824 - b * (r * (r - 2)) + c * (r * (r - 1)) * 1073741824) + 2147483647 * (a * (r - 1) - b * (r * (r - 1))) := by grind
theorem ml_polyc (a b c r : Int) : fd_c (a + (b - a) * r + ((c - b) - (b - a)) * (r * (r - 1) * 1073741824)) = fd_c (a * ((r - 1) * (r - 2)) * 1073741824 - b * (r * (r - 2)) + c * (r * (r - 1)) * 1073741824) := by
  apply fd_eq
  rw [ml_poly]
  exact Int.add_mul_emod_self_left _ _ _
end
section
/-! sets of variables, powers of two, the truth of a formula -/
theorem sv_m : ∀ n, n < 6 → ∀ i, i < 32 → bt ((((1 : Int32) <<< (nI n &&& 31)) - 1) ^^^ (-1)) i = decide (n ≤ i) := by decide +kernel
theorem sv_in {n : Nat} (hn : n < 6) (x : Int32) : (x.toUInt32 >>> ((nI n).toUInt32 &&& Int32.toUInt32 31)).toInt32 = 0 ↔ x &&& ((((1 : Int32) <<< (nI n &&& 31)) - 1) ^^^ (-1)) = 0 := by
  constructor
  · intro h
    apply b_ext
    intro i hi
    rw [b_and, sv_m n hn i hi, b_0]
    by_cases c : n ≤ i
    · have e := b_ushr n (by omega) x (i - n)
      rw [h, b_0, show n + (i - n) = i by omega] at e
      rw [← e]
      rfl
    · rw [decide_eq_false c, Bool.and_false]
  · intro h
    apply b_ext
    intro i hi
    rw [b_ushr n (by omega), b_0]
    by_cases c : n + i < 32
    · have e := b_and x ((((1 : Int32) <<< (nI n &&& 31)) - 1) ^^^ (-1)) (n + i)
      rw [h, b_0, sv_m n hn (n + i) c, decide_eq_true (by omega), Bool.and_true] at e
      exact e.symm
    · exact b_big (by omega)
theorem sv_p : ∀ n, n < 6 → (1 : Int32) <<< (nI n &&& 31) = nI (2 ^ n) := by decide +kernel
theorem sv_2 : ∀ n, n < 6 → 2 ^ n ≤ 32 := by decide
/-- the bit i of the assignment x, as the reference takes it -/
theorem sv_b {x i : Nat} (hx : x < 32) (hi : i < 32) : (nI x >>> (nI i &&& 31)) &&& 1 = nI (x / 2 ^ i % 2) := by
  rw [pk_shrN (by omega) _ i (s_l i hi)]
  have h : x / 2 ^ i ≤ x := Nat.div_le_self _ _
  exact pk_andN (by omega) 1 (by decide)
/-- a clause at k fails at x -/
def tr_n (pos neg : Nat → Int32) (b : Nat) (x : Int32) (k : Nat) : Prop := x &&& pos (b + k) = 0 ∧ (x ^^^ (-1)) &&& neg (b + k) = 0
def tr_F (pos neg : Nat → Int32) (b : Nat) (x : Int32) (k : Nat) : Prop := ∀ i, i < k → ¬ tr_n pos neg b x i
noncomputable def tr_v (pos neg : Nat → Int32) (b : Nat) (x : Int32) (k : Nat) : Nat := by
  classical exact if tr_F pos neg b x k then 1 else 0
theorem tr_F0 (pos neg : Nat → Int32) (b : Nat) (x : Int32) : tr_F pos neg b x 0 := fun i h => absurd h (by omega)
theorem tr_Fs {pos neg : Nat → Int32} {b : Nat} {x : Int32} {k : Nat} (h : tr_F pos neg b x k) (g : ¬ tr_n pos neg b x k) : tr_F pos neg b x (k + 1) := by
  intro i hi
  by_cases e : i = k
  · rw [e]; exact g
  · exact h i (by omega)
theorem tr_v1 {pos neg : Nat → Int32} {b : Nat} {x : Int32} {k : Nat} (h : tr_F pos neg b x k) : tr_v pos neg b x k = 1 := if_pos h
theorem tr_v0 {pos neg : Nat → Int32} {b : Nat} {x : Int32} {k : Nat} (h : ¬ tr_F pos neg b x k) : tr_v pos neg b x k = 0 := if_neg h
theorem tr_vr (pos neg : Nat → Int32) (b : Nat) (x : Int32) (k : Nat) : tr_v pos neg b x k = 0 ∨ tr_v pos neg b x k = 1 := by
  by_cases h : tr_F pos neg b x k
  · exact Or.inr (tr_v1 h)
  · exact Or.inl (tr_v0 h)
theorem tr_no {pos neg : Nat → Int32} {b : Nat} {x : Int32} {k c : Nat} (hk : k < c) (g : tr_n pos neg b x k) : tr_v pos neg b x c = 0 := tr_v0 (fun h => h k hk g)
end
section
/-! the class's own methods, each against the integers -/
theorem xs_minus {post : Int64 → Prop} {x y : Int} (h : post (fd_c (x - y))) : wpX_minus post (fd_c x) (fd_c y) := by
  refine ⟨by decide, ?_⟩
  rw [fd_minus]
  exact h
theorem xs_plus {post : Int64 → Prop} {x y : Int} (h : post (fd_c (x + y))) : wpX_plus post (fd_c x) (fd_c y) := by
  refine ⟨by decide, ?_⟩
  rw [fd_plus]
  exact h
theorem xs_times {post : Int64 → Prop} {x y : Int} (h : post (fd_c (x * y))) : wpX_times post (fd_c x) (fd_c y) := by
  refine ⟨by decide, ?_⟩
  rw [fd_times]
  exact h
theorem xs_timesH {post : Int64 → Prop} {x : Int} (h : post (fd_c (x * 1073741824))) : wpX_times post (fd_c x) 1073741824 := by
  rw [← fd_H]
  exact xs_times h
theorem xs_minus1 {post : Int64 → Prop} {x : Int} (h : post (fd_c (x - 1))) : wpX_minus post (fd_c x) 1 := by
  rw [← fd_1]
  exact xs_minus h
/-- the sums of one round: G t, the message by manner, the status -/
def sm_G (T : Nat → Nat → Int) (h : Nat) (t : Nat) : Int := ml_s (fun j => ml_f (T 0) t j * ml_f (T 1) t j) h
def sm_e (how : Int32) (gap : Int) (i : Nat) : Int := if how = 1 then gap * 1073741824 else if how = 2 then (if i = 0 then gap else if i = 1 then 0 else - gap) else 0
def sm_v (how : Int32) (V : Int) (G : Nat → Int) (i : Nat) : Int := G i + sm_e how (V - (G 0 + G 1)) i
def sm_st (how : Int32) (V : Int) (G : Nat → Int) : Int32 := if fd_c (sm_v how V G 0 + sm_v how V G 1) = fd_c V then 1 else 3
def sm_N (S : Nat → Int) (r : Int) : Int := S 0 + (S 1 - S 0) * r + ((S 2 - S 1) - (S 1 - S 0)) * (r * (r - 1) * 1073741824)
section
variable {xv xa xm xs xg xt : Int32} {xr : Int64} {cc ps ng ch : Nat → Int32} {se tb : Nat → Int64}
theorem xs_isTrue_l {post : Int32 → Prop} {x : Int32} {b c : Nat} (hb : b + c ≤ 12) (hp : post (nI (tr_v ps ng b x c))) : ∀ d k : Nat, k + d = c → tr_F ps ng b x k → wX_isTrue_18 post x (nI (b + c)) xv xa xm xs xg xr xt cc ps ng ch se tb (d + 1) (nI (b + k)) := by
  intro d
  induction d with
  | zero =>
    intro k hk hF
    have e : k = c := by omega
    subst e
    rw [tr_v1 hF] at hp
    exact br_t (nI_le (by omega) (by omega)) hp
  | succ d ih =>
    intro k hk hF
    have hi : vp_in (nI (b + k)) 12 := vp_in_nI (by omega) (by omega)
    have hc : (nI (b + k)).toNatClampNeg = b + k := nI_clamp (by omega)
    have next : ¬ tr_n ps ng b x k → ∀ y : Int32, y = nI (b + k) + 1 → wX_isTrue_18 post x (nI (b + c)) xv xa xm xs xg xr xt cc ps ng ch se tb (d + 1) y := by
      intro g y ey
      rw [ey, nI_1]
      exact ih (k + 1) (by omega) (tr_Fs hF g)
    refine br_f (nI_ge (by omega) (by omega)) ⟨hi, ?_⟩
    by_cases h1 : x &&& ps (nI (b + k)).toNatClampNeg = 0
    · refine br_t h1 ⟨hi, ?_⟩
      rw [hc] at h1
      by_cases h2 : (x ^^^ (-1)) &&& ng (nI (b + k)).toNatClampNeg = 0
      · refine br_t h2 ?_
        rw [hc] at h2
        rw [tr_no (k := k) (by omega) ⟨h1, h2⟩] at hp
        exact hp
      · refine br_f h2 (next fun g => h2 ?_)
        rw [hc]
        exact g.2
    · refine br_f h1 (next fun g => h1 ?_)
      rw [hc]
      exact g.1
theorem xs_isTrue {post : Int32 → Prop} {f c : Nat} (hf : f < 2) (hc : c ≤ 6) (ec : cc f = nI c) (x : Int32) (hp : post (nI (tr_v ps ng (6 * f) x c))) : wpX_isTrue post (xv, xa, xm, xs, xg, xr, xt, cc, ps, ng, ch, se, tb) (nI f) x := by
  have e1 : nI f * 6 = nI (6 * f) := by rw [Nat.mul_comm]; exact pk_mul f 6
  have e2 : nI (6 * f) + cc (nI f).toNatClampNeg = nI (6 * f + c) := by rw [nI_clamp (by omega), ec, nI_add]
  refine nm_r e1 ⟨vp_in_nI hf (by omega), nm_r e2 ⟨c + 1, ?_⟩⟩
  exact xs_isTrue_l (by omega) hp c 0 (by omega) (tr_F0 _ _ _ _)
theorem xs_fill_l {post : SX → Prop} {f c n : Nat} (hf : f < 2) (hn : n < 6) (hc : c ≤ 6) (ec : cc f = nI c) (tb0 : Nat → Int64)
    (hp : ∀ t : Nat → Int64, (∀ j, j < 2 ^ n → t (32 * f + j) = fd_c (tr_v ps ng (6 * f) (nI j) c)) → (∀ i, (i < 32 * f ∨ 32 * f + 32 ≤ i) → t i = tb0 i) → post (xv, nI (2 ^ n), xm, xs, xg, xr, xt, cc, ps, ng, ch, se, t)) :
    ∀ d x : Nat, x + d = 2 ^ n → ∀ t : Nat → Int64, (∀ j, j < x → t (32 * f + j) = fd_c (tr_v ps ng (6 * f) (nI j) c)) → (∀ i, (i < 32 * f ∨ 32 * f + 32 ≤ i) → t i = tb0 i) → wX_fillTable_7 post (nI f) (nI (32 * f)) xv (nI (2 ^ n)) xm xs xg xr xt (d + 1) (nI x) cc ps ng ch se t := by
  have h32 := sv_2 n hn
  intro d
  induction d with
  | zero =>
    intro x hx t h1 h2
    have e : x = 2 ^ n := by omega
    subst e
    exact br_t (nI_le (by omega) (by omega)) (hp t h1 h2)
  | succ d ih =>
    intro x hx t h1 h2
    have ei : nI (32 * f) + nI x = nI (32 * f + x) := nI_add _ _
    have hi : vp_in (nI (32 * f) + nI x) 64 := by rw [ei]; exact vp_in_nI (by omega) (by omega)
    have hcl : (nI (32 * f) + nI x).toNatClampNeg = 32 * f + x := by rw [ei]; exact nI_clamp (by omega)
    have next : ∀ w : Int64, w = fd_c (tr_v ps ng (6 * f) (nI x) c) → ∀ t' : Nat → Int64, t' = vp_updL t (nI (32 * f) + nI x).toNatClampNeg w → ∀ y : Int32, y = nI x + 1 → wX_fillTable_7 post (nI f) (nI (32 * f)) xv (nI (2 ^ n)) xm xs xg xr xt (d + 1) y cc ps ng ch se t' := by
      intro w ew t' et y ey
      rw [ey, nI_1, et, hcl]
      refine ih (x + 1) (by omega) _ ?_ ?_
      · intro j hj
        by_cases e : j = x
        · rw [e, pk_uLs, ew]
        · rw [pk_uLn (by omega)]
          exact h1 j (by omega)
      · intro i hi2
        rw [pk_uLn (by omega)]
        exact h2 i hi2
    refine br_f (nI_ge (by omega) (by omega)) (xs_isTrue hf hc ec (nI x) ?_)
    rcases tr_vr ps ng (6 * f) (nI x) c with z | z
    · rw [z]
      exact br_t rfl ⟨hi, next 0 (by rw [z]; exact fd_0.symm)⟩
    · rw [z]
      exact br_f (by decide) ⟨hi, next 1 (by rw [z]; exact fd_1.symm)⟩
theorem xs_fill {post : SX → Prop} {f c n : Nat} (hf : f < 2) (hn : n < 6) (hc : c ≤ 6) (ec : cc f = nI c)
    (hp : ∀ t : Nat → Int64, (∀ j, j < 2 ^ n → t (32 * f + j) = fd_c (tr_v ps ng (6 * f) (nI j) c)) → (∀ i, (i < 32 * f ∨ 32 * f + 32 ≤ i) → t i = tb i) → post (xv, nI (2 ^ n), xm, xs, xg, xr, xt, cc, ps, ng, ch, se, t)) :
    wpX_fillTable post (xv, nI (2 ^ n), xm, xs, xg, xr, xt, cc, ps, ng, ch, se, tb) (nI f) := by
  have e1 : nI f * 32 = nI (32 * f) := by rw [Nat.mul_comm]; exact pk_mul f 32
  refine nm_r e1 ⟨2 ^ n + 1, ?_⟩
  exact xs_fill_l hf hn hc ec tb hp (2 ^ n) 0 (by omega) tb (fun j h => absurd h (by omega)) (fun _ _ => rfl)
theorem xs_bound {post : Int64 → Prop} {f j : Nat} {T : Nat → Int} (hf : f < 2) (hj : j < 16) (h0 : tb (32 * f + 2 * j) = fd_c (T (2 * j))) (h1 : tb (32 * f + (2 * j + 1)) = fd_c (T (2 * j + 1))) (z : Int) (hp : post (fd_c (ml_f T z j))) : wpX_boundEntry post (xv, xa, xm, xs, xg, xr, xt, cc, ps, ng, ch, se, tb) (nI f) (nI j) (fd_c z) := by
  have e1 : nI f * 32 + 2 * nI j = nI (32 * f + 2 * j) := by
    rw [show nI f * 32 = nI (32 * f) by rw [Nat.mul_comm]; exact pk_mul f 32, show 2 * nI j = nI (2 * j) from pk_mul 2 j, nI_add]
  have c0 : (nI (32 * f + 2 * j)).toNatClampNeg = 32 * f + 2 * j := nI_clamp (by omega)
  have c1 : (nI (32 * f + 2 * j) + 1).toNatClampNeg = 32 * f + (2 * j + 1) := by
    rw [nI_1]
    exact nI_clamp (by omega)
  have i0 : vp_in (nI (32 * f + 2 * j)) 64 := vp_in_nI (by omega) (by omega)
  have i1 : vp_in (nI (32 * f + 2 * j) + 1) 64 := by
    rw [nI_1]
    exact vp_in_nI (by omega) (by omega)
  refine nm_r e1 ⟨i1, i0, ?_⟩
  rw [c0, c1, h0, h1]
  exact xs_minus (xs_times ⟨i0, xs_plus hp⟩)
theorem xs_half {h : Nat} (hh : h ≤ 16) : nI (2 * h) / 2 = nI h := by
  have e := pk_div (a := 2 * h) (d := 2) (by omega) (by decide) (by decide)
  rw [show 2 * h / 2 = h by omega] at e
  exact e
theorem xs_honest_l {post : Int64 → Prop} {h : Nat} {T : Nat → Nat → Int} (hh : h ≤ 16) (hT : ∀ f, f < 2 → ∀ i, i < 2 * h → tb (32 * f + i) = fd_c (T f i)) (z : Int) (hp : post (fd_c (ml_s (fun j => ml_f (T 0) z j * ml_f (T 1) z j) h))) :
    ∀ d j : Nat, j + d = h → wX_honestAt_5 post (fd_c z) xv xa xm xs xg xr (nI (2 * h)) cc ps ng ch se tb (d + 1) (fd_c (ml_s (fun j => ml_f (T 0) z j * ml_f (T 1) z j) j)) (nI j) := by
  intro d
  induction d with
  | zero =>
    intro j hj
    have e : j = h := by omega
    subst e
    exact ⟨by decide, br_t (by rw [xs_half hh]; exact nI_le (by omega) (by omega)) hp⟩
  | succ d ih =>
    intro j hj
    refine ⟨by decide, br_f (by rw [xs_half hh]; exact nI_ge (by omega) (by omega)) ?_⟩
    refine xs_bound (f := 0) (T := T 0) (by omega) (by omega) (hT 0 (by omega) (2 * j) (by omega)) (hT 0 (by omega) (2 * j + 1) (by omega)) z ?_
    refine xs_bound (f := 1) (T := T 1) (by omega) (by omega) (hT 1 (by omega) (2 * j) (by omega)) (hT 1 (by omega) (2 * j + 1) (by omega)) z ?_
    refine xs_times (xs_plus (nm_r (nI_1 j) ?_))
    exact ih (j + 1) (by omega)
theorem xs_honest {post : Int64 → Prop} {h : Nat} {T : Nat → Nat → Int} {w : Int64} (hh : h ≤ 16) (ht : xt = nI (2 * h)) (hT : ∀ f, f < 2 → ∀ i, i < 2 * h → tb (32 * f + i) = fd_c (T f i)) (t : Nat) (hw : w = fd_c t) (hp : post (fd_c (sm_G T h t))) : wpX_honestAt post (xv, xa, xm, xs, xg, xr, xt, cc, ps, ng, ch, se, tb) w := by
  subst ht hw
  refine ⟨h + 1, ?_⟩
  have H := xs_honest_l (xv := xv) (xa := xa) (xm := xm) (xs := xs) (xg := xg) (xr := xr) (cc := cc) (ps := ps) (ng := ng) (ch := ch) (se := se) hh hT t hp h 0 (by omega)
  rw [show ml_s (fun j => ml_f (T 0) t j * ml_f (T 1) t j) 0 = 0 from rfl, fd_0, nI_0] at H
  exact H
theorem xs_bind_l {post : SX → Prop} {f h : Nat} {T : Nat → Int} (hf : f < 2) (hh : h ≤ 16) (hT : ∀ i, i < 2 * h → tb (32 * f + i) = fd_c (T i)) (z : Int)
    (hp : ∀ t : Nat → Int64, (∀ j, j < h → t (32 * f + j) = fd_c (ml_f T z j)) → (∀ i, (i < 32 * f ∨ 32 * f + 32 ≤ i) → t i = tb i) → post (xv, xa, xm, xs, xg, xr, nI (2 * h), cc, ps, ng, ch, se, t)) :
    ∀ d j : Nat, j + d = h → ∀ t : Nat → Int64, (∀ i, i < j → t (32 * f + i) = fd_c (ml_f T z i)) → (∀ i, j ≤ i → t (32 * f + i) = tb (32 * f + i)) → (∀ i, (i < 32 * f ∨ 32 * f + 32 ≤ i) → t i = tb i) → wX_bindVariable_9 post (nI f) (fd_c z) (nI (32 * f)) xv xa xm xs xg xr (nI (2 * h)) (d + 1) (nI j) cc ps ng ch se t := by
  intro d
  induction d with
  | zero =>
    intro j hj t h1 _ h3
    have e : j = h := by omega
    subst e
    exact ⟨by decide, br_t (by rw [xs_half hh]; exact nI_le (by omega) (by omega)) (hp t h1 h3)⟩
  | succ d ih =>
    intro j hj t h1 h2 h3
    have ei : nI (32 * f) + nI j = nI (32 * f + j) := nI_add _ _
    have hi : vp_in (nI (32 * f) + nI j) 64 := by rw [ei]; exact vp_in_nI (by omega) (by omega)
    have hcl : (nI (32 * f) + nI j).toNatClampNeg = 32 * f + j := by rw [ei]; exact nI_clamp (by omega)
    refine ⟨by decide, br_f (by rw [xs_half hh]; exact nI_ge (by omega) (by omega)) ?_⟩
    refine xs_bound (T := T) hf (by omega) ((h2 (2 * j) (by omega)).trans (hT _ (by omega))) ((h2 (2 * j + 1) (by omega)).trans (hT _ (by omega))) z ⟨hi, ?_⟩
    intro t' et y ey
    rw [ey, nI_1, et, hcl]
    refine ih (j + 1) (by omega) _ ?_ ?_ ?_
    · intro i hij
      by_cases e : i = j
      · rw [e, pk_uLs]
      · rw [pk_uLn (by omega)]
        exact h1 i (by omega)
    · intro i hij
      rw [pk_uLn (by omega)]
      exact h2 i (by omega)
    · intro i hi2
      rw [pk_uLn (by omega)]
      exact h3 i hi2
theorem xs_bind {post : SX → Prop} {f h : Nat} {T : Nat → Int} {w : Int64} (hf : f < 2) (hh : h ≤ 16) (ht : xt = nI (2 * h)) (hT : ∀ i, i < 2 * h → tb (32 * f + i) = fd_c (T i)) (z : Int) (hw : w = fd_c z)
    (hp : ∀ t : Nat → Int64, (∀ j, j < h → t (32 * f + j) = fd_c (ml_f T z j)) → (∀ i, (i < 32 * f ∨ 32 * f + 32 ≤ i) → t i = tb i) → post (xv, xa, xm, xs, xg, xr, xt, cc, ps, ng, ch, se, t)) :
    wpX_bindVariable post (xv, xa, xm, xs, xg, xr, xt, cc, ps, ng, ch, se, tb) (nI f) w := by
  subst ht hw
  have e1 : nI f * 32 = nI (32 * f) := by rw [Nat.mul_comm]; exact pk_mul f 32
  refine nm_r e1 ⟨h + 1, ?_⟩
  exact xs_bind_l hf hh hT z hp h 0 (by omega) tb (fun i h => absurd h (by omega)) (fun _ _ => rfl) (fun _ _ => rfl)
end
end
section
/-! a round of the class: the message, its status, the polynomial, the end -/
theorem sm_e1 {gap : Int} {i : Nat} : sm_e 1 gap i = gap * 1073741824 := if_pos rfl
theorem sm_e20 {gap : Int} : sm_e 2 gap 0 = gap := rfl
theorem sm_e21 {gap : Int} : sm_e 2 gap 1 = 0 := rfl
theorem sm_e22 {gap : Int} : sm_e 2 gap 2 = - gap := rfl
theorem sm_e0 {how : Int32} {gap : Int} {i : Nat} (h1 : ¬ how = 1) (h2 : ¬ how = 2) : sm_e how gap i = 0 := by
  unfold sm_e
  rw [if_neg h1, if_neg h2]
theorem sm_lt3 {P : Nat → Prop} (h0 : P 0) (h1 : P 1) (h2 : P 2) : ∀ i, i < 3 → P i := by
  intro i hi
  have e : i = 0 ∨ i = 1 ∨ i = 2 := by omega
  rcases e with rfl | rfl | rfl
  · exact h0
  · exact h1
  · exact h2
section
variable {xv xa xm xs xg xt : Int32} {xr : Int64} {cc ps ng ch : Nat → Int32} {se tb : Nat → Int64}
theorem xs_send {post : SX → Prop} {h : Nat} {T : Nat → Nat → Int} {V : Int} (hh : h ≤ 16) (ht : xt = nI (2 * h)) (hv : xr = fd_c V) (hT : ∀ f, f < 2 → ∀ i, i < 2 * h → tb (32 * f + i) = fd_c (T f i))
    (hp : ∀ s : Nat → Int64, (∀ i, i < 3 → s i = fd_c (sm_v xm V (sm_G T h) i)) → post (xv, xa, xm, xs, xg, xr, xt, cc, ps, ng, ch, s, tb)) :
    wpX_sendMessage post (xv, xa, xm, xs, xg, xr, xt, cc, ps, ng, ch, se, tb) := by
  unfold wpX_sendMessage
  refine xs_honest hh ht hT 0 fd_0.symm (fun s1 e1 => ?_)
  refine xs_honest hh ht hT 1 fd_1.symm (fun s2 e2 => ?_)
  refine xs_honest hh ht hT 2 fd_2.symm (fun s3 e3 => ?_)
  have a0 : s3 0 = fd_c (sm_G T h 0) := by rw [e3, pk_uLn (by decide), e2, pk_uLn (by decide), e1, pk_uLs]
  have a1 : s3 1 = fd_c (sm_G T h 1) := by rw [e3, pk_uLn (by decide), e2, pk_uLs]
  have a2 : s3 2 = fd_c (sm_G T h 2) := by rw [e3, pk_uLs]
  rw [a0, a1]
  refine xs_plus ?_
  subst hv
  refine xs_minus ?_
  by_cases m1 : xm = 1
  · subst m1
    refine br_t rfl (xs_timesH (xs_plus (fun s4 e4 => ?_)))
    have b1 : s4 1 = fd_c (sm_G T h 1) := by rw [e4, pk_uLn (by decide), a1]
    rw [b1]
    refine xs_plus (fun s5 e5 => ?_)
    have b2 : s5 2 = fd_c (sm_G T h 2) := by rw [e5, pk_uLn (by decide), e4, pk_uLn (by decide), a2]
    rw [b2]
    refine xs_plus (fun s6 e6 => hp s6 (sm_lt3 ?_ ?_ ?_))
    · rw [e6, pk_uLn (by decide), e5, pk_uLn (by decide), e4, pk_uLs, sm_v, sm_e1]
    · rw [e6, pk_uLn (by decide), e5, pk_uLs, sm_v, sm_e1]
    · rw [e6, pk_uLs, sm_v, sm_e1]
  · refine br_f m1 ?_
    by_cases m2 : xm = 2
    · subst m2
      refine br_t rfl (xs_plus (fun s4 e4 => ?_))
      have b2 : s4 2 = fd_c (sm_G T h 2) := by rw [e4, pk_uLn (by decide), a2]
      rw [b2]
      refine xs_minus (fun s5 e5 => hp s5 (sm_lt3 ?_ ?_ ?_))
      · rw [e5, pk_uLn (by decide), e4, pk_uLs, sm_v, sm_e20]
      · rw [e5, pk_uLn (by decide), e4, pk_uLn (by decide), a1, sm_v, sm_e21, Int.add_zero]
      · rw [e5, pk_uLs, sm_v, sm_e22, Int.sub_eq_add_neg]
    · refine br_f m2 (hp s3 (sm_lt3 ?_ ?_ ?_))
      · rw [a0, sm_v, sm_e0 m1 m2, Int.add_zero]
      · rw [a1, sm_v, sm_e0 m1 m2, Int.add_zero]
      · rw [a2, sm_v, sm_e0 m1 m2, Int.add_zero]
theorem xs_begin {post : SX → Prop} {h : Nat} {T : Nat → Nat → Int} {V : Int} (hh : h ≤ 16) (ht : xt = nI (2 * h)) (hv : xr = fd_c V) (hT : ∀ f, f < 2 → ∀ i, i < 2 * h → tb (32 * f + i) = fd_c (T f i))
    (hp : ∀ s : Nat → Int64, (∀ i, i < 3 → s i = fd_c (sm_v xm V (sm_G T h) i)) → post (xv, xa, xm, sm_st xm V (sm_G T h), xg, xr, xt, cc, ps, ng, ch, s, tb)) :
    wpX_beginRound post (xv, xa, xm, xs, xg, xr, xt, cc, ps, ng, ch, se, tb) := by
  unfold wpX_beginRound
  refine xs_send hh ht hv hT (fun s hs => ?_)
  have H := hp s hs
  show wpX_plus _ (s 0) (s 1)
  rw [hs 0 (by decide), hs 1 (by decide)]
  refine xs_plus ?_
  subst hv
  by_cases c : fd_c (sm_v xm V (sm_G T h) 0 + sm_v xm V (sm_G T h) 1) = fd_c V
  · refine br_t c ?_
    rw [sm_st, if_pos c] at H
    exact H
  · refine br_f c ?_
    rw [sm_st, if_neg c] at H
    exact H
theorem xs_poly {post : Int64 → Prop} {S : Nat → Int} {w : Int64} (hs : ∀ i, i < 3 → se i = fd_c (S i)) (r : Int) (hw : w = fd_c r) (hp : post (fd_c (sm_N S r))) :
    wpX_sentPolynomialAt post (xv, xa, xm, xs, xg, xr, xt, cc, ps, ng, ch, se, tb) w := by
  subst hw
  unfold wpX_sentPolynomialAt
  show wpX_minus _ (se 1) (se 0)
  rw [hs 0 (by decide), hs 1 (by decide), hs 2 (by decide)]
  refine xs_minus ?_
  refine xs_minus ?_
  refine xs_minus ?_
  refine xs_minus1 ?_
  refine xs_times ?_
  refine xs_timesH ?_
  refine xs_times ?_
  refine xs_times ?_
  refine xs_plus ?_
  refine xs_plus ?_
  exact hp
theorem xs_end {post : SX → Prop} {A B V : Int} (hv : xr = fd_c V) (h0 : tb 0 = fd_c A) (h1 : tb 32 = fd_c B)
    (hp : post (xv, xa, xm, if fd_c V = fd_c (A * B) then 2 else 3, xg, xr, xt, cc, ps, ng, ch, se, tb)) :
    wpX_endRun post (xv, xa, xm, xs, xg, xr, xt, cc, ps, ng, ch, se, tb) := by
  unfold wpX_endRun
  show wpX_times _ (tb 0) (tb 32)
  rw [h0, h1]
  refine xs_times ?_
  subst hv
  by_cases c : fd_c V = fd_c (A * B)
  · rw [if_pos c] at hp
    exact br_t c hp
  · rw [if_neg c] at hp
    exact br_f c hp
end
end
section
/-! the reference's own methods, each against the integers -/
theorem fd_zS1 (x : Int) : (fd_c x - 1).toInt % 2147483647 = (x - 1) % 2147483647 := by
  rw [← fd_1]
  exact fd_zS x 1
theorem fd_zS2 (x : Int) : (fd_c x - 2).toInt % 2147483647 = (x - 2) % 2147483647 := by
  rw [← fd_2]
  exact fd_zS x 2
theorem fd_z1S (x : Int) : (1 - fd_c x).toInt % 2147483647 = (1 - x) % 2147483647 := by
  rw [← fd_1]
  exact fd_zS 1 x
theorem fd_zMH (x : Int) : (fd_c x * 1073741824).toInt % 2147483647 = (x * 1073741824) % 2147483647 := by
  rw [← fd_H]
  exact fd_zM x 1073741824
theorem fd_zA0 (x : Int) : (fd_c x + 0).toInt % 2147483647 = (x + 0) % 2147483647 := by
  rw [← fd_0]
  exact fd_zA x 0
theorem tr_nb (pos neg : Nat → Int32) (b : Nat) (x : Int32) (k : Nat) : narrow .boolean (.int (nI (tr_v pos neg b x k))) = .int (nI (tr_v pos neg b x k)) := by
  rcases tr_vr pos neg b x k with z | z
  · rw [z]
    rfl
  · rw [z]
    rfl
theorem tr_f1 {pos neg : Nat → Int32} {b : Nat} {x : Int32} {k : Nat} (h : tr_v pos neg b x k = 1) : tr_F pos neg b x k := by
  by_cases c : tr_F pos neg b x k
  · exact c
  · rw [tr_v0 c] at h
    exact absurd h (by decide)
theorem tr_s0 {pos neg : Nat → Int32} {b : Nat} {x : Int32} {k : Nat} (h : tr_v pos neg b x k = 0) : tr_v pos neg b x (k + 1) = 0 := by
  apply tr_v0
  intro c
  rw [tr_v1 (fun i hi => c i (by omega))] at h
  exact absurd h (by decide)
theorem tr_s1 {pos neg : Nat → Int32} {b : Nat} {x : Int32} {k : Nat} (h : tr_v pos neg b x k = 1) (g : ¬ tr_n pos neg b x k) : tr_v pos neg b x (k + 1) = 1 := tr_v1 (tr_Fs (tr_f1 h) g)
section
variable {yn yh yd yg : Int32} {yv : Int64} {cl yp yq : Nat → Int32} {sd ak zz : Nat → Int64}
theorem ys_field {post : Int64 → Prop} {x : Int64} (z : Int) (hz : x.toInt % 2147483647 = z % 2147483647) (hp : post (fd_c z)) : wpY_field post (yn, yh, yd, yg, yv, cl, yp, yq, sd, ak, zz) x := by
  refine ⟨by decide, nm_e ?_⟩
  by_cases h : 0 ≤ x - x / 2147483647 * 2147483647
  · refine br_t h ?_
    rw [fd_pos hz (Int64.not_lt.mpr h)]
    exact hp
  · refine br_f h ?_
    rw [fd_neg hz (Int64.not_le.mp h)]
    exact hp
theorem ys_holds_l {post : Int32 → Prop} {f c : Nat} (hf : f < 2) (hc : c ≤ 6) (ec : cl f = nI c) (x : Int32) (hp : post (nI (tr_v yp yq (6 * f) x c))) :
    ∀ d k : Nat, k + d = c → wY_holds_30 post (nI f) x yn yh yd yg yv cl yp yq sd ak zz (d + 1) (nI (tr_v yp yq (6 * f) x k)) (nI k) := by
  have hfi : vp_in (nI f) 2 := vp_in_nI hf (by omega)
  have hfc : cl (nI f).toNatClampNeg = nI c := by rw [nI_clamp (by omega), ec]
  intro d
  induction d with
  | zero =>
    intro k hk
    have e : k = c := by omega
    subst e
    exact ⟨hfi, br_t (by rw [hfc]; exact nI_le (by omega) (by omega)) ⟨tr_nb _ _ _ _ _, hp⟩⟩
  | succ d ih =>
    intro k hk
    have ei : 6 * nI f + nI k = nI (6 * f + k) := by
      rw [show 6 * nI f = nI (6 * f) from pk_mul 6 f, nI_add]
    have hi : vp_in (6 * nI f + nI k) 12 := by rw [ei]; exact vp_in_nI (by omega) (by omega)
    have hcl : (6 * nI f + nI k).toNatClampNeg = 6 * f + k := by rw [ei]; exact nI_clamp (by omega)
    have I := ih (k + 1) (by omega)
    have next : ∀ w : Int32, w = nI (tr_v yp yq (6 * f) x (k + 1)) → ∀ y : Int32, y = nI k + 1 → wY_holds_30 post (nI f) x yn yh yd yg yv cl yp yq sd ak zz (d + 1) w y := by
      intro w ew y ey
      rw [ew, ey, nI_1]
      exact I
    refine ⟨hfi, br_f (by rw [hfc]; exact nI_ge (by omega) (by omega)) (br_f (nI_ge (b := 6) (by omega) (by decide)) ?_)⟩
    rcases tr_vr yp yq (6 * f) x k with z | z
    · rw [z]
      exact br_t rfl (next 0 (by rw [tr_s0 z]; rfl))
    · rw [z]
      refine br_f (by decide) ⟨hi, ?_⟩
      by_cases h1 : x &&& yp (6 * nI f + nI k).toNatClampNeg = 0
      · refine br_t h1 ⟨hi, ?_⟩
        rw [hcl] at h1
        by_cases h2 : (x ^^^ (-1)) &&& yq (6 * nI f + nI k).toNatClampNeg = 0
        · refine br_t h2 (next 0 ?_)
          rw [hcl] at h2
          rw [tr_no (k := k) (by omega) ⟨h1, h2⟩]
          rfl
        · refine br_f h2 (next 1 ?_)
          rw [hcl] at h2
          rw [tr_s1 z (fun g => h2 g.2)]
          rfl
      · refine br_f h1 (next 1 ?_)
        rw [hcl] at h1
        rw [tr_s1 z (fun g => h1 g.1)]
        rfl
theorem ys_holds9 {post : Int32 → Prop} {f c n : Nat} (hf : f < 2) (hn : n < 6) (hc : c ≤ 6) (ec : cl f = nI c) {x : Nat} (hx : x < 2 ^ n) (hp : post (nI (tr_v yp yq (6 * f) (nI x) c))) : wY_holds_9 post (nI f) (nI x) (nI n) yh yd yg yv cl yp yq sd ak zz := by
  have h32 := sv_2 n hn
  refine br_f (nI_pos (by omega)) (br_t (by rw [sv_p n hn]; exact nI_lt hx (by omega)) ⟨c + 1, ?_⟩)
  have H := ys_holds_l (yn := nI n) (yh := yh) (yd := yd) (yg := yg) (yv := yv) (sd := sd) (ak := ak) (zz := zz) hf hc ec (nI x) hp c 0 (by omega)
  rw [tr_v1 (tr_F0 _ _ _ _)] at H
  exact H
theorem ys_holds {post : Int32 → Prop} {f c n : Nat} (hf : f < 2) (hn : n < 6) (hc : c ≤ 6) (ec : cl f = nI c) {x : Nat} (hx : x < 2 ^ n) (hp : post (nI (tr_v yp yq (6 * f) (nI x) c))) : wpY_holds post (nI n, yh, yd, yg, yv, cl, yp, yq, sd, ak, zz) (nI f) (nI x) := by
  have e : f = 0 ∨ f = 1 := by omega
  rcases e with rfl | rfl
  · exact br_t rfl (ys_holds9 hf hn hc ec hx hp)
  · exact br_f (by decide) (br_t rfl (ys_holds9 hf hn hc ec hx hp))
theorem ys_at_in {post : Int64 → Prop} {J5 : Int64 → Int32 → Prop} {x1 : Int32} {S : Int} {x n : Nat} {z : Nat → Int} (hn : n < 6) (hx : x < 32) (hz : ∀ i, i < n → zz i = fd_c (z i)) (hp : J5 (fd_c (S + ml_p z x n)) (nI (x + 1))) :
    ∀ d i : Nat, i + d = n → wY_at_32 post J5 x1 (fd_c S) (nI x) (nI n) yh yd yg yv cl yp yq sd ak zz (d + 1) (fd_c (ml_p z x i)) (nI i) := by
  intro d
  induction d with
  | zero =>
    intro i hi
    have e : i = n := by omega
    subst e
    exact br_t (nI_le (by omega) (by omega)) (ys_field (S + ml_p z x i) (fd_zA _ _) (nm_r (nI_1 x) hp))
  | succ d ih =>
    intro i hi
    have I := ih (i + 1) (by omega)
    have hv : vp_in (nI i) 5 := vp_in_nI (by omega) (by omega)
    have hcl : zz (nI i).toNatClampNeg = fd_c (z i) := by rw [nI_clamp (by omega)]; exact hz i (by omega)
    refine br_f (nI_ge (by omega) (by omega)) ?_
    by_cases hb : x / 2 ^ i % 2 = 1
    · refine br_t (by rw [sv_b hx (by omega), hb]; rfl) ⟨hv, ys_field (ml_p z x (i + 1)) ?_ (nm_r (nI_1 i) I)⟩
      rw [hcl, fd_zM, ml_p, ml_b, if_pos hb]
    · refine br_f ?_ ⟨hv, ys_field (1 - z i) (by rw [hcl]; exact fd_z1S _) (ys_field (ml_p z x (i + 1)) ?_ (nm_r (nI_1 i) I))⟩
      · rw [sv_b hx (by omega)]
        intro e
        have e' : nI (x / 2 ^ i % 2) = nI 1 := e
        rw [nI_eq (by omega) (by omega)] at e'
        exact hb e'
      · rw [fd_zM, ml_p, ml_b, if_neg hb]
theorem ys_at_l {post : Int64 → Prop} {f c n : Nat} {z : Nat → Int} (hf : f < 2) (hn : n < 6) (hc : c ≤ 6) (ec : cl f = nI c) (hz : ∀ i, i < n → zz i = fd_c (z i))
    (hp : post (fd_c (ml_s (fun x => (tr_v yp yq (6 * f) (nI x) c : Int) * ml_p z x n) (2 ^ n)))) :
    ∀ d x : Nat, x + d = 2 ^ n → wY_at_5 post (nI f) (nI n) yh yd yg yv cl yp yq sd ak zz (d + 1) (fd_c (ml_s (fun x => (tr_v yp yq (6 * f) (nI x) c : Int) * ml_p z x n) x)) (nI x) := by
  have h32 := sv_2 n hn
  intro d
  induction d with
  | zero =>
    intro x hx
    have e : x = 2 ^ n := by omega
    subst e
    exact br_t (by rw [sv_p n hn]; exact nI_le (by omega) (by omega)) hp
  | succ d ih =>
    intro x hx
    have I := ih (x + 1) (by omega)
    have es : ml_s (fun x => (tr_v yp yq (6 * f) (nI x) c : Int) * ml_p z x n) (x + 1) = ml_s (fun x => (tr_v yp yq (6 * f) (nI x) c : Int) * ml_p z x n) x + (tr_v yp yq (6 * f) (nI x) c : Int) * ml_p z x n := rfl
    rw [es] at I
    refine br_f (by rw [sv_p n hn]; exact nI_ge (by omega) (by omega)) (ys_holds hf hn hc ec (by omega) ?_)
    rcases tr_vr yp yq (6 * f) (nI x) c with h | h
    · rw [h] at I ⊢
      rw [show ((0 : Nat) : Int) * ml_p z x n = 0 from Int.zero_mul _, Int.add_zero] at I
      exact br_t rfl (nm_r (nI_1 x) I)
    · rw [h] at I ⊢
      rw [show ((1 : Nat) : Int) * ml_p z x n = ml_p z x n from Int.one_mul _] at I
      exact br_f (by decide) ⟨n + 1, ys_at_in hn (by omega) hz I n 0 (by omega)⟩
/-- F~ of formula f at z -/
theorem ys_at {post : Int64 → Prop} {f c n : Nat} {z : Nat → Int} (hf : f < 2) (hn : n < 6) (hc : c ≤ 6) (ec : cl f = nI c) (hz : ∀ i, i < n → zz i = fd_c (z i))
    (hp : post (fd_c (ml_E (fun x => (tr_v yp yq (6 * f) (nI x) c : Int)) z n 0))) : wpY_at post (nI n, yh, yd, yg, yv, cl, yp, yq, sd, ak, zz) (nI f) := by
  rw [← ml_at] at hp
  exact ⟨2 ^ n + 1, ys_at_l hf hn hc ec hz hp (2 ^ n) 0 (by omega)⟩
theorem ys_both {post : Int64 → Prop} {c : Nat → Nat} {n : Nat} {z : Nat → Int} (hn : n < 6) (hc : ∀ f, f < 2 → c f ≤ 6 ∧ cl f = nI (c f)) (hz : ∀ i, i < n → zz i = fd_c (z i))
    (hp : post (fd_c (ml_E (fun x => (tr_v yp yq (6 * 0) (nI x) (c 0) : Int)) z n 0 * ml_E (fun x => (tr_v yp yq (6 * 1) (nI x) (c 1) : Int)) z n 0))) : wpY_both post (nI n, yh, yd, yg, yv, cl, yp, yq, sd, ak, zz) := by
  unfold wpY_both
  refine ys_at (f := 0) (by decide) hn (hc 0 (by decide)).1 (hc 0 (by decide)).2 hz ?_
  refine ys_at (f := 1) (by decide) hn (hc 1 (by decide)).1 (hc 1 (by decide)).2 hz ?_
  exact ys_field _ (fd_zM _ _) hp
end
end
