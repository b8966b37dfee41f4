/-! the field: every element is fd_c z of an integer z, and the operations of both classes are those of the integers -/
def fd_c (z : Int) : Int64 := Int64.ofInt (z % 2147483647)
theorem fd_t (z : Int) : (fd_c z).toInt = z % 2147483647 := by
  have a : 0 ≤ z % 2147483647 ∧ z % 2147483647 < 2147483647 := by omega
  exact Int64.toInt_ofInt_of_le (by omega) (by omega)
theorem fd_eq {a b : Int} (h : a % 2147483647 = b % 2147483647) : fd_c a = fd_c b := by
  unfold fd_c
  rw [h]
theorem fd_pT : (2147483647 : Int64).toInt = 2147483647 := by decide
theorem fd_rem {x : Int64} {z : Int} (h0 : 0 ≤ x.toInt) (hz : x.toInt % 2147483647 = z % 2147483647) : x - x / 2147483647 * 2147483647 = fd_c z := by
  apply Int64.toInt_inj.mp
  rw [Jvm.Kit.i64_rem_nonneg h0, fd_t, fd_pT, hz]
theorem fd_plus (x y : Int) : fd_c x + fd_c y - (fd_c x + fd_c y) / 2147483647 * 2147483647 = fd_c (x + y) := by
  have e : (fd_c x + fd_c y).toInt = x % 2147483647 + y % 2147483647 := by
    rw [Jvm.Kit.i64_add (by rw [fd_t, fd_t]; omega) (by rw [fd_t, fd_t]; omega), fd_t, fd_t]
  exact fd_rem (by rw [e]; omega) (by rw [e]; omega)
theorem fd_minus (x y : Int) : fd_c x - fd_c y + 2147483647 - (fd_c x - fd_c y + 2147483647) / 2147483647 * 2147483647 = fd_c (x - y) := by
  have e1 : (fd_c x - fd_c y).toInt = x % 2147483647 - y % 2147483647 := by
    rw [Jvm.Kit.i64_sub (by rw [fd_t, fd_t]; omega) (by rw [fd_t, fd_t]; omega), fd_t, fd_t]
  have e : (fd_c x - fd_c y + 2147483647).toInt = x % 2147483647 - y % 2147483647 + 2147483647 := by
    rw [Jvm.Kit.i64_add (by rw [e1, fd_pT]; omega) (by rw [e1, fd_pT]; omega), e1, fd_pT]
  exact fd_rem (by rw [e]; omega) (by rw [e]; omega)
theorem fd_mulb {a b : Int} (ha : 0 ≤ a ∧ a < 2147483647) (hb : 0 ≤ b ∧ b < 2147483647) : 0 ≤ a * b ∧ a * b < 4611686018427387904 := by
  refine ⟨Int.mul_nonneg ha.1 hb.1, ?_⟩
  have h : a * b ≤ 2147483647 * 2147483647 := Int.mul_le_mul (by omega) (by omega) hb.1 (by decide)
  omega
theorem fd_mT (x y : Int) : (fd_c x * fd_c y).toInt = (x % 2147483647) * (y % 2147483647) := by
  have h := fd_mulb (a := x % 2147483647) (b := y % 2147483647) (by omega) (by omega)
  rw [Jvm.Kit.i64_mul (by rw [fd_t, fd_t]; omega) (by rw [fd_t, fd_t]; omega), fd_t, fd_t]
theorem fd_times (x y : Int) : fd_c x * fd_c y - fd_c x * fd_c y / 2147483647 * 2147483647 = fd_c (x * y) := by
  have h := fd_mulb (a := x % 2147483647) (b := y % 2147483647) (by omega) (by omega)
  exact fd_rem (by rw [fd_mT]; exact h.1) (by rw [fd_mT]; exact (Int.mul_emod x y _).symm)
/-- the reference's remainder, which may be below nought, then mended -/
theorem fd_rT (x : Int64) : (x - x / 2147483647 * 2147483647).toInt = x.toInt.tmod 2147483647 := by
  rw [Jvm.Kit.i64_rem, fd_pT]
theorem fd_tm {a : Int} (h : a < 0) : a.tmod 2147483647 = - ((-a) % 2147483647) := by
  have e : a = - (- a) := by omega
  rw [e, Int.neg_tmod, Int.tmod_eq_emod_of_nonneg (by omega)]
  rw [Int.neg_neg]
theorem fd_neg {x : Int64} {z : Int} (hz : x.toInt % 2147483647 = z % 2147483647) (h : x - x / 2147483647 * 2147483647 < 0) : x - x / 2147483647 * 2147483647 + 2147483647 = fd_c z := by
  have h0 : (0 : Int64).toInt = 0 := by decide
  rw [Int64.lt_iff_toInt_lt, fd_rT, h0] at h
  have hx : x.toInt < 0 := by
    rcases Int.lt_or_le x.toInt 0 with g | g
    · exact g
    · rw [Int.tmod_eq_emod_of_nonneg g] at h
      omega
  rw [fd_tm hx] at h
  have e : (x - x / 2147483647 * 2147483647).toInt = - ((- x.toInt) % 2147483647) := by rw [fd_rT, fd_tm hx]
  apply Int64.toInt_inj.mp
  rw [Jvm.Kit.i64_add (by rw [e, fd_pT]; omega) (by rw [e, fd_pT]; omega), e, fd_pT, fd_t, ← hz]
  omega
theorem fd_pos {x : Int64} {z : Int} (hz : x.toInt % 2147483647 = z % 2147483647) (h : ¬ x - x / 2147483647 * 2147483647 < 0) : x - x / 2147483647 * 2147483647 = fd_c z := by
  have h0 : (0 : Int64).toInt = 0 := by decide
  rw [Int64.lt_iff_toInt_lt, fd_rT, h0] at h
  apply Int64.toInt_inj.mp
  rw [fd_rT, fd_t, ← hz]
  rcases Int.lt_or_le x.toInt 0 with g | g
  · rw [fd_tm g] at h ⊢
    omega
  · rw [Int.tmod_eq_emod_of_nonneg g]
/-- what the reference's field is given, as integers -/
theorem fd_aT (x y : Int) : (fd_c x + fd_c y).toInt = x % 2147483647 + y % 2147483647 := by
  rw [Jvm.Kit.i64_add (by rw [fd_t, fd_t]; omega) (by rw [fd_t, fd_t]; omega), fd_t, fd_t]
theorem fd_sT (x y : Int) : (fd_c x - fd_c y).toInt = x % 2147483647 - y % 2147483647 := by
  rw [Jvm.Kit.i64_sub (by rw [fd_t, fd_t]; omega) (by rw [fd_t, fd_t]; omega), fd_t, fd_t]
theorem fd_zA (x y : Int) : (fd_c x + fd_c y).toInt % 2147483647 = (x + y) % 2147483647 := by
  rw [fd_aT]
  omega
theorem fd_zS (x y : Int) : (fd_c x - fd_c y).toInt % 2147483647 = (x - y) % 2147483647 := by
  rw [fd_sT]
  omega
theorem fd_zM (x y : Int) : (fd_c x * fd_c y).toInt % 2147483647 = (x * y) % 2147483647 := by
  rw [fd_mT]
  exact (Int.mul_emod x y _).symm
theorem fd_zSS (x y z : Int) : (fd_c x - fd_c y - fd_c z).toInt % 2147483647 = (x - y - z) % 2147483647 := by
  rw [Jvm.Kit.i64_sub (by rw [fd_sT, fd_t]; omega) (by rw [fd_sT, fd_t]; omega), fd_sT, fd_t]
  omega
theorem fd_zSA (x y z : Int) : (fd_c x - fd_c y + fd_c z).toInt % 2147483647 = (x - y + z) % 2147483647 := by
  rw [Jvm.Kit.i64_add (by rw [fd_sT, fd_t]; omega) (by rw [fd_sT, fd_t]; omega), fd_sT, fd_t]
  omega
theorem fd_nT (x : Int) : (- fd_c x).toInt = - (x % 2147483647) := by
  rw [Jvm.Kit.i64_neg (by rw [fd_t]; omega), fd_t]
theorem fd_zN (x y : Int) : (fd_c x + (- fd_c y)).toInt % 2147483647 = (x - y) % 2147483647 := by
  rw [Jvm.Kit.i64_add (by rw [fd_t, fd_nT]; omega) (by rw [fd_t, fd_nT]; omega), fd_t, fd_nT]
  omega
/-- ints that are elements -/
theorem fd_i {n : Nat} (h : n < 2147483647) : (nI n).toInt64 = fd_c n := by
  apply Int64.toInt_inj.mp
  rw [Jvm.Kit.i64_of_i32, nI_toInt (by omega), fd_t]
  omega
theorem fd_0 : fd_c 0 = 0 := by decide
theorem fd_1 : fd_c 1 = 1 := by decide
theorem fd_2 : fd_c 2 = 2 := by decide
theorem fd_H : fd_c 1073741824 = 1073741824 := by decide
theorem fd_back {n : Nat} (h : n < 2147483647) : (fd_c n).toInt32 = nI n := by
  rw [← fd_i h]
  exact lg_l2i_i2l _
