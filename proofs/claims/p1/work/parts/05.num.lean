/-! The machine's ints and longs against the numbers of 02.exec. (fa_and, fa_or, fb_andL, fb_orL, uN, uN_shr, uN_sk began as kit/laws' texts.) -/
theorem fa_and (a b : Nat) : nI a &&& nI b = nI (a &&& b) := by
  apply Int32.toBitVec_inj.1
  show BitVec.ofNat 32 a &&& BitVec.ofNat 32 b = BitVec.ofNat 32 (a &&& b)
  apply BitVec.eq_of_getLsbD_eq
  intro i hi
  simp [hi]
theorem fa_or (a b : Nat) : nI a ||| nI b = nI (a ||| b) := by
  apply Int32.toBitVec_inj.1
  show BitVec.ofNat 32 a ||| BitVec.ofNat 32 b = BitVec.ofNat 32 (a ||| b)
  apply BitVec.eq_of_getLsbD_eq
  intro i hi
  simp [hi]
theorem fb_andL (a b : Nat) : lN a &&& lN b = lN (a &&& b) := by
  apply Int64.toBitVec_inj.1
  show BitVec.ofNat 64 a &&& BitVec.ofNat 64 b = BitVec.ofNat 64 (a &&& b)
  apply BitVec.eq_of_getLsbD_eq
  intro i hi
  simp [hi]
theorem fb_orL (a b : Nat) : lN a ||| lN b = lN (a ||| b) := by
  apply Int64.toBitVec_inj.1
  show BitVec.ofNat 64 a ||| BitVec.ofNat 64 b = BitVec.ofNat 64 (a ||| b)
  apply BitVec.eq_of_getLsbD_eq
  intro i hi
  simp [hi]
def uN (x : Int64) : Nat := x.toUInt64.toNat
theorem uN_inj {x y : Int64} (h : uN x = uN y) : x = y := congrArg UInt64.toInt64 (UInt64.toNat_inj.mp h)
theorem uN_shr (x : Int64) (s : UInt64) : uN (x.toUInt64 >>> s).toInt64 = uN x / 2 ^ (s.toNat % 64) := by
  show (x.toUInt64 >>> s).toNat = _
  rw [UInt64.toNat_shiftRight, Nat.shiftRight_eq_div_pow]
  rfl
theorem uN_sk (x : Int64) {k : Nat} (hk : k < 64) : uN (x.toUInt64 >>> ((nI k).toInt64.toUInt64 &&& Int64.toUInt64 63)).toInt64 = uN x / 2 ^ k := by
  have h : ((nI k).toInt64.toUInt64 &&& Int64.toUInt64 63).toNat % 64 = k := by
    rw [nI_l (by omega), UInt64.toNat_and]
    have e : (lN k).toUInt64.toNat = k % 2 ^ 64 := rfl
    have e2 : (Int64.toUInt64 63).toNat = 2 ^ 6 - 1 := by decide
    rw [e, e2, Nat.and_two_pow_sub_one_eq_mod]
    omega
  rw [uN_shr, h]
-- ints
theorem zn0 (x y : Nat) : Int32.ofNat (zi0 x y) = Int32.ofNat x + Int32.ofNat y := by
  unfold zi0
  rw [zmod, zadd, z32_mod, Int32.ofNat_add]
theorem z32_up (x : Nat) : Int32.ofNat (x + 4294967296) = Int32.ofNat x := by
  rw [← z32_mod (x + 4294967296), ← z32_mod x, Nat.add_mod_right]
theorem zn1 {x y : Nat} (hy : y ≤ 4294967295) : Int32.ofNat (zi1 x y) = Int32.ofNat x - Int32.ofNat y := by
  have e : Int32.ofNat (x + (4294967296 - y)) + Int32.ofNat y = Int32.ofNat x := by
    rw [← Int32.ofNat_add, show x + (4294967296 - y) + y = x + 4294967296 by omega, z32_up]
  unfold zi1
  rw [zmod, zadd, zsub, z32_mod, ← e, Int32.add_sub_cancel]
theorem zn2 (x y : Nat) : Int32.ofNat (zi2 x y) = Int32.ofNat x * Int32.ofNat y := by
  unfold zi2
  rw [zmod, zmul, z32_mod, Int32.ofNat_mul]
theorem zn3 (x y : Nat) : Int32.ofNat (zi3 x y) = Int32.ofNat x &&& Int32.ofNat y := (fa_and x y).symm
theorem zn4 (x y : Nat) : Int32.ofNat (zi4 x y) = Int32.ofNat x ||| Int32.ofNat y := (fa_or x y).symm
theorem zn6_s : ∀ y, y < 32 → ((Int32.ofNat y &&& 31).toBitVec.smod 32).toNat = y := by decide +kernel
theorem zn6 {x y : Nat} (hy : y ≤ 31) : Int32.ofNat (zi6 x y) = Int32.ofNat x <<< (Int32.ofNat y &&& 31) := by
  unfold zi6
  rw [Nat.ble_eq_true_of_le hy, cond_true, zmod, zshl]
  apply Int32.toBitVec_inj.mp
  apply BitVec.eq_of_toNat_eq
  rw [pk_shl _ _ y (zn6_s y (by omega))]
  show (BitVec.ofNat 32 _).toNat = (BitVec.ofNat 32 x).toNat * _ % _
  rw [BitVec.toNat_ofNat, BitVec.toNat_ofNat, Nat.shiftLeft_eq, Nat.mod_mul_mod]
  exact Nat.mod_mod _ _
theorem zi6_le {x y : Nat} (h : zi6 x y ≤ 4294967295) : y ≤ 31 := by
  rcases Nat.lt_or_ge 31 y with q | q
  · unfold zi6 at h
    rw [zble_n q, cond_false] at h
    omega
  · exact q
theorem zi9_le {x y : Nat} (h : zi9 x y ≤ 4294967295) : x ≤ 2147483647 ∧ y ≤ 2147483647 ∧ y ≠ 0 ∧ zi9 x y = x / y := by
  unfold zi9 at h ⊢
  rcases Nat.lt_or_ge 2147483647 x with q | q
  · rw [zble_n q, cond_false] at h; omega
  · rcases Nat.lt_or_ge 2147483647 y with q2 | q2
    · rw [Nat.ble_eq_true_of_le q, zble_n q2, cond_true, cond_false] at h; omega
    · rw [Nat.ble_eq_true_of_le q, Nat.ble_eq_true_of_le q2, cond_true, cond_true] at h ⊢
      cases e : Nat.beq y 0 with
      | true => rw [e, cond_true] at h; omega
      | false => exact ⟨q, q2, zbeq_f e, by rw [cond_false, zdiv]⟩
theorem zi10_le {x y : Nat} (h : zi10 x y ≤ 4294967295) : x ≤ 2147483647 ∧ y ≤ 2147483647 ∧ y ≠ 0 ∧ zi10 x y = x % y := by
  unfold zi10 at h ⊢
  rcases Nat.lt_or_ge 2147483647 x with q | q
  · rw [zble_n q, cond_false] at h; omega
  · rcases Nat.lt_or_ge 2147483647 y with q2 | q2
    · rw [Nat.ble_eq_true_of_le q, zble_n q2, cond_true, cond_false] at h; omega
    · rw [Nat.ble_eq_true_of_le q, Nat.ble_eq_true_of_le q2, cond_true, cond_true] at h ⊢
      cases e : Nat.beq y 0 with
      | true => rw [e, cond_true] at h; omega
      | false => exact ⟨q, q2, zbeq_f e, by rw [cond_false, zmod]⟩
theorem zn9 {x y : Nat} (hx : x ≤ 2147483647) (hy : y ≤ 2147483647) (h0 : y ≠ 0) : Int32.ofNat (x / y) = Int32.ofNat x / Int32.ofNat y := (pk_div (by omega) (by omega) (by omega)).symm
theorem zn10 {x y : Nat} (hx : x ≤ 2147483647) (hy : y ≤ 2147483647) (h0 : y ≠ 0) : Int32.ofNat (x % y) = Int32.ofNat x - Int32.ofNat x / Int32.ofNat y * Int32.ofNat y := (pk_rem (by omega) (by omega) (by omega)).symm
theorem zn_ne {y : Nat} (hy : y ≤ 2147483647) (h0 : y ≠ 0) : ¬ Int32.ofNat y = 0 := nI_ne0 (by omega) (by omega)
-- longs
theorem zm0 (x y : Nat) : Int64.ofNat (zl0 x y) = Int64.ofNat x + Int64.ofNat y := by
  unfold zl0
  rw [zmod, zadd, z64_mod, Int64.ofNat_add]
theorem z64_up (x : Nat) : Int64.ofNat (x + 18446744073709551616) = Int64.ofNat x := by
  rw [← z64_mod (x + 18446744073709551616), ← z64_mod x, Nat.add_mod_right]
theorem zm1 {x y : Nat} (hy : y ≤ 18446744073709551615) : Int64.ofNat (zl1 x y) = Int64.ofNat x - Int64.ofNat y := by
  have e : Int64.ofNat (x + (18446744073709551616 - y)) + Int64.ofNat y = Int64.ofNat x := by
    rw [← Int64.ofNat_add, show x + (18446744073709551616 - y) + y = x + 18446744073709551616 by omega, z64_up]
  unfold zl1
  rw [zmod, zadd, zsub, z64_mod, ← e, Int64.add_sub_cancel]
theorem zm3 (x y : Nat) : Int64.ofNat (zl3 x y) = Int64.ofNat x &&& Int64.ofNat y := (fb_andL x y).symm
theorem zm4 (x y : Nat) : Int64.ofNat (zl4 x y) = Int64.ofNat x ||| Int64.ofNat y := (fb_orL x y).symm
theorem zms {x y : Nat} (hx : x ≤ 18446744073709551615) (hy : y ≤ 63) : Int64.ofNat (zs2 x y) = ((Int64.ofNat x).toUInt64 >>> ((Int32.ofNat y).toInt64.toUInt64 &&& Int64.toUInt64 63)).toInt64 := by
  apply uN_inj
  have h := uN_sk (Int64.ofNat x) (k := y) (by omega)
  have e : ∀ n, n ≤ 18446744073709551615 → uN (Int64.ofNat n) = n := fun n hn => by
    show (BitVec.ofNat 64 n).toNat = n
    rw [BitVec.toNat_ofNat]
    exact Nat.mod_eq_of_lt (by omega)
  rw [show Int32.ofNat y = nI y from rfl, h, e x hx]
  unfold zs2
  rw [zshr, Nat.shiftRight_eq_div_pow, e]
  exact Nat.le_trans (Nat.div_le_self _ _) hx
-- numbers of ints and longs
theorem zt32 {x : Nat} (h : x ≤ 4294967295) : (Int32.ofNat x).toInt = if x < 2147483648 then (x : Int) else (x : Int) - 4294967296 := by
  have c := BitVec.toInt_eq_toNat_cond (Int32.ofNat x).toBitVec
  have e : (Int32.ofNat x).toBitVec.toNat = x := by
    show (BitVec.ofNat 32 x).toNat = x
    rw [BitVec.toNat_ofNat]
    exact Nat.mod_eq_of_lt (by omega)
  rw [e] at c
  show (Int32.ofNat x).toBitVec.toInt = _
  rw [c]
  split <;> split <;> omega
theorem zt64 {x : Nat} (h : x ≤ 18446744073709551615) : (Int64.ofNat x).toInt = if x < 9223372036854775808 then (x : Int) else (x : Int) - 18446744073709551616 := by
  have c := BitVec.toInt_eq_toNat_cond (Int64.ofNat x).toBitVec
  have e : (Int64.ofNat x).toBitVec.toNat = x := by
    show (BitVec.ofNat 64 x).toNat = x
    rw [BitVec.toNat_ofNat]
    exact Nat.mod_eq_of_lt (by omega)
  rw [e] at c
  show (Int64.ofNat x).toBitVec.toInt = _
  rw [c]
  split <;> split <;> omega
theorem zvi_lo {ρ : Nat → Int} {x : Nat} (h : x ≤ 4294967295) : zvi ρ x = Int32.ofNat x := by unfold zvi; rw [if_pos (by omega)]
theorem zvl_lo {ρ : Nat → Int} {x : Nat} (h : x < 55340232221128654848) : zvl ρ x = Int64.ofNat (x - 36893488147419103232) := by unfold zvl; rw [if_pos h]
theorem zb32_ok {ρ : Nat → Int} {x : Nat} (h : x ≤ 4294967295) : ((zb32 x : Nat) : Int) = (zvi ρ x).toInt + 2147483648 := by
  rw [zvi_lo h, zt32 h]
  unfold zb32
  rw [zmod, zadd]
  split <;> omega
theorem zbi_i {ρ : Nat → Int} {x : Nat} (h : x ≤ 4294967295) : ((zbi x : Nat) : Int) = (zvi ρ x).toInt + 9223372036854775808 := by
  rw [zvi_lo h, zt32 h]
  unfold zbi
  rw [zble_n (show x < 18446744073709551616 by omega), cond_false]
  rcases Nat.lt_or_ge x 2147483648 with q | q
  · rw [zble_n q, cond_false, zadd, if_pos q]; omega
  · rw [Nat.ble_eq_true_of_le q, cond_true, zadd, if_neg (by omega)]; omega
theorem zbi_l {ρ : Nat → Int} {x : Nat} (h1 : 36893488147419103232 ≤ x) (h2 : x < 55340232221128654848) : ((zbi x : Nat) : Int) = (zvl ρ x).toInt + 9223372036854775808 := by
  rw [zvl_lo h2, zt64 (by omega)]
  unfold zbi
  rw [Nat.ble_eq_true_of_le (show 18446744073709551616 ≤ x by omega), cond_true, zmodadd]
  split <;> omega
theorem zsy_n {c : Nat} (h : zsy c = false) : c < 18446744073709551616 ∨ (36893488147419103232 ≤ c ∧ c < 55340232221128654848) ∨ 73786976294838206464 ≤ c := by
  rcases Nat.lt_or_ge c 18446744073709551616 with q | q
  · exact Or.inl q
  · right
    rcases Nat.lt_or_ge c 73786976294838206464 with q4 | q4
    · left
      unfold zsy at h
      rcases Nat.lt_or_ge c 55340232221128654848 with q3 | q3
      · rcases Nat.lt_or_ge c 36893488147419103232 with q2 | q2
        · rw [zble_n q4, zble_n q3, zble_n q2, cond_false, cond_false, cond_false, Nat.ble_eq_true_of_le q] at h
          cases h
        · exact ⟨q2, q3⟩
      · rw [zble_n q4, Nat.ble_eq_true_of_le q3, cond_false, cond_true] at h
        cases h
    · exact Or.inr q4
theorem zsym_i {ρ : Nat → Int} {S : zS} (hs : zsat ρ S) {c : Nat} (hc : zsy c = true) (hk : zkd c = 0) (hq : zin 0 (ziv S (zid c)) = true) : ((zbv ρ (zid c) : Nat) : Int) = (zvi ρ c).toInt + 9223372036854775808 := by
  rw [zkd_eq] at hk
  rcases zsy_i hc with ⟨g1, g2, g3⟩ | ⟨g1, g2, g3⟩
  · obtain ⟨i1, i2, i3⟩ := zbv_iv hs (zid c)
    have i4 := zbv_eq hs (zid c)
    unfold zin at hq
    rw [show Nat.beq 0 0 = true from rfl, cond_true] at hq
    cases e : Nat.ble 9223372034707292160 (ziv S (zid c)).1 with
    | false => rw [e, cond_false] at hq; cases hq
    | true =>
      rw [e, cond_true] at hq
      have e := zble_t e
      have hq := zble_t hq
      unfold zvi
      rw [if_neg (by omega), ← g3, Int32.toInt_ofInt, show Int32.size = 4294967296 from rfl, Int.bmod_eq_of_le (by omega) (by omega)]
      exact i4
  · omega
theorem zsym_l {ρ : Nat → Int} {S : zS} (hs : zsat ρ S) {c : Nat} (hc : zsy c = true) (hk : zkd c = 1) : ((zbv ρ (zid c) : Nat) : Int) = (zvl ρ c).toInt + 9223372036854775808 := by
  rw [zkd_eq] at hk
  rcases zsy_i hc with ⟨g1, g2, g3⟩ | ⟨g1, g2, g3⟩
  · omega
  · obtain ⟨i1, i2, i3⟩ := zbv_iv hs (zid c)
    have i4 := zbv_eq hs (zid c)
    unfold zvl
    rw [if_neg (by omega), ← g3, Int64.toInt_ofInt, show Int64.size = 18446744073709551616 from rfl, Int.bmod_eq_of_le (by omega) (by omega)]
    exact i4
