/-! Printed by wip/p1/gen7.py: the n-th row, digit by digit -/
def zDn : zD := [((nat_lit 21), (nat_lit 0x30000000000000008), (nat_lit 0x20000000000001000), (nat_lit 0x30000000000000013)), ((nat_lit 21), (nat_lit 0x30000000000000013), (nat_lit 0x20000000000001000), (nat_lit 0x30000000000000014)), ((nat_lit 21), (nat_lit 0x30000000000000014), (nat_lit 0x20000000000001000), (nat_lit 0x30000000000000015)), ((nat_lit 21), (nat_lit 0x3000000000000000d), (nat_lit 0x20000000000000400), (nat_lit 0x30000000000000016)), ((nat_lit 21), (nat_lit 0x30000000000000016), (nat_lit 0x20000000000000400), (nat_lit 0x30000000000000017)), ((nat_lit 21), (nat_lit 0x30000000000000017), (nat_lit 0x20000000000000400), (nat_lit 0x30000000000000018)), ((nat_lit 21), (nat_lit 0x3000000000000000e), (nat_lit 0x20000000000000100), (nat_lit 0x30000000000000019)), ((nat_lit 21), (nat_lit 0x30000000000000019), (nat_lit 0x20000000000000100), (nat_lit 0x3000000000000001a)), ((nat_lit 21), (nat_lit 0x3000000000000001a), (nat_lit 0x20000000000000100), (nat_lit 0x3000000000000001b)), ((nat_lit 21), (nat_lit 0x3000000000000000f), (nat_lit 0x20000000000000040), (nat_lit 0x3000000000000001c)), ((nat_lit 21), (nat_lit 0x3000000000000001c), (nat_lit 0x20000000000000040), (nat_lit 0x3000000000000001d)), ((nat_lit 21), (nat_lit 0x3000000000000001d), (nat_lit 0x20000000000000040), (nat_lit 0x3000000000000001e)), ((nat_lit 21), (nat_lit 0x30000000000000010), (nat_lit 0x20000000000000010), (nat_lit 0x3000000000000001f)), ((nat_lit 21), (nat_lit 0x3000000000000001f), (nat_lit 0x20000000000000010), (nat_lit 0x30000000000000020)), ((nat_lit 21), (nat_lit 0x30000000000000020), (nat_lit 0x20000000000000010), (nat_lit 0x30000000000000021)), ((nat_lit 21), (nat_lit 0x30000000000000011), (nat_lit 0x20000000000000004), (nat_lit 0x30000000000000022)), ((nat_lit 21), (nat_lit 0x30000000000000022), (nat_lit 0x20000000000000004), (nat_lit 0x30000000000000023)), ((nat_lit 21), (nat_lit 0x30000000000000023), (nat_lit 0x20000000000000004), (nat_lit 0x30000000000000024)), ((nat_lit 21), (nat_lit 0x30000000000000012), (nat_lit 0x20000000000000001), (nat_lit 0x30000000000000025)), ((nat_lit 21), (nat_lit 0x30000000000000025), (nat_lit 0x20000000000000001), (nat_lit 0x30000000000000026)), ((nat_lit 21), (nat_lit 0x30000000000000026), (nat_lit 0x20000000000000001), (nat_lit 0x30000000000000027))]
def zSn (q : Nat × Nat) : zS := [((nat_lit 9223372034707292160), (nat_lit 9223372039002259455)), ((nat_lit 9223372034707292160), (nat_lit 9223372039002259455)), ((nat_lit 9223372034707292160), (nat_lit 9223372039002259455)), q, ((nat_lit 9223372034707292160), (nat_lit 9223372039002259455)), ((nat_lit 9223372036854775827), (nat_lit 9223372036854775827)), ((nat_lit 0), (nat_lit 18446744073709551615)), ((nat_lit 0), (nat_lit 18446744073709551615)), ((nat_lit 9223372036854775808), (nat_lit 9223372036854792191)), ((nat_lit 0), (nat_lit 18446744073709551615)), ((nat_lit 0), (nat_lit 18446744073709551615)), ((nat_lit 0), (nat_lit 18446744073709551615)), ((nat_lit 9223372034707292160), (nat_lit 9223372039002259455)), ((nat_lit 9223372036854775808), (nat_lit 9223372036854779903)), ((nat_lit 9223372036854775808), (nat_lit 9223372036854776831)), ((nat_lit 9223372036854775808), (nat_lit 9223372036854776063)), ((nat_lit 9223372036854775808), (nat_lit 9223372036854775871)), ((nat_lit 9223372036854775808), (nat_lit 9223372036854775823)), ((nat_lit 9223372036854775808), (nat_lit 9223372036854775811)), ((nat_lit 9223372036854771712), (nat_lit 9223372036854788095)), ((nat_lit 9223372036854767616), (nat_lit 9223372036854783999)), ((nat_lit 9223372036854763520), (nat_lit 9223372036854779903)), ((nat_lit 9223372036854774784), (nat_lit 9223372036854778879)), ((nat_lit 9223372036854773760), (nat_lit 9223372036854777855)), ((nat_lit 9223372036854772736), (nat_lit 9223372036854776831)), ((nat_lit 9223372036854775552), (nat_lit 9223372036854776575)), ((nat_lit 9223372036854775296), (nat_lit 9223372036854776319)), ((nat_lit 9223372036854775040), (nat_lit 9223372036854776063)), ((nat_lit 9223372036854775744), (nat_lit 9223372036854775999)), ((nat_lit 9223372036854775680), (nat_lit 9223372036854775935)), ((nat_lit 9223372036854775616), (nat_lit 9223372036854775871)), ((nat_lit 9223372036854775792), (nat_lit 9223372036854775855)), ((nat_lit 9223372036854775776), (nat_lit 9223372036854775839)), ((nat_lit 9223372036854775760), (nat_lit 9223372036854775823)), ((nat_lit 9223372036854775804), (nat_lit 9223372036854775819)), ((nat_lit 9223372036854775800), (nat_lit 9223372036854775815)), ((nat_lit 9223372036854775796), (nat_lit 9223372036854775811)), ((nat_lit 9223372036854775807), (nat_lit 9223372036854775810)), ((nat_lit 9223372036854775806), (nat_lit 9223372036854775809)), ((nat_lit 9223372036854775805), (nat_lit 9223372036854775808)), ((nat_lit 9223372036854775808), (nat_lit 9223372036854775811)), ((nat_lit 9223372036854775808), (nat_lit 9223372036854775811)), ((nat_lit 9223372036854775808), (nat_lit 9223372036854775811)), ((nat_lit 9223372036854775808), (nat_lit 9223372036854775811)), ((nat_lit 9223372036854775808), (nat_lit 9223372036854775811)), ((nat_lit 9223372036854775808), (nat_lit 9223372036854775811)), ((nat_lit 9223372036854775808), (nat_lit 9223372036854775811)), ((nat_lit 9223372036854775808), (nat_lit 9223372036854775811))]
/-- the script asks for a row and a day that there are -/
def zrg (xs : Nat → Int32) : Prop := 0 ≤ zri xs ∧ zri xs ≤ 16383 ∧ 0 ≤ (xs 3).toInt ∧ (xs 3).toInt ≤ 6
theorem zrC_sub {xs : Nat → Int32} (h : zrg xs) (k : Nat) (hk : k ≤ 16384) : (zrC xs - Int64.ofNat k).toInt = zri xs - k := by
  obtain ⟨h1, h2, -, -⟩ := h
  unfold zri at h1 h2 ⊢
  rw [Int64.toInt_sub, Int64.toInt_ofNat_of_lt (by omega), Int.bmod_eq_of_le (by omega) (by omega)]
theorem zmu_19 {xs : Nat → Int32} (h : zrg xs) : zrho xs 19 = zri xs - 4096 := zrC_sub h 4096 (by decide)
theorem zmu_20 {xs : Nat → Int32} (h : zrg xs) : zrho xs 20 = zri xs - 8192 := zrC_sub h 8192 (by decide)
theorem zmu_21 {xs : Nat → Int32} (h : zrg xs) : zrho xs 21 = zri xs - 12288 := zrC_sub h 12288 (by decide)
theorem zmu_22 {xs : Nat → Int32} (_h : zrg xs) : zrho xs 22 = zri xs % 4096 - 1024 := rfl
theorem zmu_23 {xs : Nat → Int32} (_h : zrg xs) : zrho xs 23 = zri xs % 4096 - 2048 := rfl
theorem zmu_24 {xs : Nat → Int32} (_h : zrg xs) : zrho xs 24 = zri xs % 4096 - 3072 := rfl
theorem zmu_25 {xs : Nat → Int32} (_h : zrg xs) : zrho xs 25 = zri xs % 1024 - 256 := rfl
theorem zmu_26 {xs : Nat → Int32} (_h : zrg xs) : zrho xs 26 = zri xs % 1024 - 512 := rfl
theorem zmu_27 {xs : Nat → Int32} (_h : zrg xs) : zrho xs 27 = zri xs % 1024 - 768 := rfl
theorem zmu_28 {xs : Nat → Int32} (_h : zrg xs) : zrho xs 28 = zri xs % 256 - 64 := rfl
theorem zmu_29 {xs : Nat → Int32} (_h : zrg xs) : zrho xs 29 = zri xs % 256 - 128 := rfl
theorem zmu_30 {xs : Nat → Int32} (_h : zrg xs) : zrho xs 30 = zri xs % 256 - 192 := rfl
theorem zmu_31 {xs : Nat → Int32} (_h : zrg xs) : zrho xs 31 = zri xs % 64 - 16 := rfl
theorem zmu_32 {xs : Nat → Int32} (_h : zrg xs) : zrho xs 32 = zri xs % 64 - 32 := rfl
theorem zmu_33 {xs : Nat → Int32} (_h : zrg xs) : zrho xs 33 = zri xs % 64 - 48 := rfl
theorem zmu_34 {xs : Nat → Int32} (_h : zrg xs) : zrho xs 34 = zri xs % 16 - 4 := rfl
theorem zmu_35 {xs : Nat → Int32} (_h : zrg xs) : zrho xs 35 = zri xs % 16 - 8 := rfl
theorem zmu_36 {xs : Nat → Int32} (_h : zrg xs) : zrho xs 36 = zri xs % 16 - 12 := rfl
theorem zmu_37 {xs : Nat → Int32} (_h : zrg xs) : zrho xs 37 = zri xs % 4 - 1 := rfl
theorem zmu_38 {xs : Nat → Int32} (_h : zrg xs) : zrho xs 38 = zri xs % 4 - 2 := rfl
theorem zmu_39 {xs : Nat → Int32} (_h : zrg xs) : zrho xs 39 = zri xs % 4 - 3 := rfl
theorem zla_13 {xs : Nat → Int32} (_h : zrg xs) : zrho xs 13 = zri xs % 4096 := rfl
theorem zla_14 {xs : Nat → Int32} (_h : zrg xs) : zrho xs 14 = zri xs % 1024 := rfl
theorem zla_15 {xs : Nat → Int32} (_h : zrg xs) : zrho xs 15 = zri xs % 256 := rfl
theorem zla_16 {xs : Nat → Int32} (_h : zrg xs) : zrho xs 16 = zri xs % 64 := rfl
theorem zla_17 {xs : Nat → Int32} (_h : zrg xs) : zrho xs 17 = zri xs % 16 := rfl
theorem zla_18 {xs : Nat → Int32} (_h : zrg xs) : zrho xs 18 = zri xs % 4 := rfl
theorem zla_8 {xs : Nat → Int32} (_h : zrg xs) : zrho xs 8 = zri xs := rfl
theorem zsubB (a : Int) (B : Nat) : Int64.ofInt (a - (B : Int)) = Int64.ofInt a - Int64.ofNat B := by
  rw [Int64.ofInt_sub]
  rfl
theorem zdq_mu {xs : Nat → Int32} {a c B : Nat} (hB : B < 18446744073709551616) (h : zrho xs c = zrho xs a - (B : Int)) : zdq (zrho xs) (21, 55340232221128654848 + a, 36893488147419103232 + B, 55340232221128654848 + c) := by
  refine zdq_21 ?_
  rw [zvl_r, zvl_r, zvl_n xs hB, h]
  exact zsubB _ _
theorem zDn_ok {xs : Nat → Int32} (h : zrg xs) : zdOK (zrho xs) zDn := by
  intro q hq
  simp only [zDn, List.mem_cons, List.not_mem_nil, or_false] at hq
  rcases hq with rfl | rfl | rfl | rfl | rfl | rfl | rfl | rfl | rfl | rfl | rfl | rfl | rfl | rfl | rfl | rfl | rfl | rfl | rfl | rfl | rfl
  · exact zdq_mu (xs := xs) (a := 8) (c := 19) (B := 4096) (by decide) (by rw [zmu_19 h, zla_8 h]; omega)
  · exact zdq_mu (xs := xs) (a := 19) (c := 20) (B := 4096) (by decide) (by rw [zmu_20 h, zmu_19 h]; omega)
  · exact zdq_mu (xs := xs) (a := 20) (c := 21) (B := 4096) (by decide) (by rw [zmu_21 h, zmu_20 h]; omega)
  · exact zdq_mu (xs := xs) (a := 13) (c := 22) (B := 1024) (by decide) (by rw [zmu_22 h, zla_13 h]; omega)
  · exact zdq_mu (xs := xs) (a := 22) (c := 23) (B := 1024) (by decide) (by rw [zmu_23 h, zmu_22 h]; omega)
  · exact zdq_mu (xs := xs) (a := 23) (c := 24) (B := 1024) (by decide) (by rw [zmu_24 h, zmu_23 h]; omega)
  · exact zdq_mu (xs := xs) (a := 14) (c := 25) (B := 256) (by decide) (by rw [zmu_25 h, zla_14 h]; omega)
  · exact zdq_mu (xs := xs) (a := 25) (c := 26) (B := 256) (by decide) (by rw [zmu_26 h, zmu_25 h]; omega)
  · exact zdq_mu (xs := xs) (a := 26) (c := 27) (B := 256) (by decide) (by rw [zmu_27 h, zmu_26 h]; omega)
  · exact zdq_mu (xs := xs) (a := 15) (c := 28) (B := 64) (by decide) (by rw [zmu_28 h, zla_15 h]; omega)
  · exact zdq_mu (xs := xs) (a := 28) (c := 29) (B := 64) (by decide) (by rw [zmu_29 h, zmu_28 h]; omega)
  · exact zdq_mu (xs := xs) (a := 29) (c := 30) (B := 64) (by decide) (by rw [zmu_30 h, zmu_29 h]; omega)
  · exact zdq_mu (xs := xs) (a := 16) (c := 31) (B := 16) (by decide) (by rw [zmu_31 h, zla_16 h]; omega)
  · exact zdq_mu (xs := xs) (a := 31) (c := 32) (B := 16) (by decide) (by rw [zmu_32 h, zmu_31 h]; omega)
  · exact zdq_mu (xs := xs) (a := 32) (c := 33) (B := 16) (by decide) (by rw [zmu_33 h, zmu_32 h]; omega)
  · exact zdq_mu (xs := xs) (a := 17) (c := 34) (B := 4) (by decide) (by rw [zmu_34 h, zla_17 h]; omega)
  · exact zdq_mu (xs := xs) (a := 34) (c := 35) (B := 4) (by decide) (by rw [zmu_35 h, zmu_34 h]; omega)
  · exact zdq_mu (xs := xs) (a := 35) (c := 36) (B := 4) (by decide) (by rw [zmu_36 h, zmu_35 h]; omega)
  · exact zdq_mu (xs := xs) (a := 18) (c := 37) (B := 1) (by decide) (by rw [zmu_37 h, zla_18 h]; omega)
  · exact zdq_mu (xs := xs) (a := 37) (c := 38) (B := 1) (by decide) (by rw [zmu_38 h, zmu_37 h]; omega)
  · exact zdq_mu (xs := xs) (a := 38) (c := 39) (B := 1) (by decide) (by rw [zmu_39 h, zmu_38 h]; omega)
theorem zdOK_app {ρ : Nat → Int} {a b : zD} (ha : zdOK ρ a) (hb : zdOK ρ b) : zdOK ρ (a ++ b) := fun q hq => (List.mem_append.mp hq).elim (ha q) (hb q)
theorem zbdr {z : Int} {lo hi : Nat} (h1 : (lo : Int) ≤ z + 9223372036854775808) (h2 : z + 9223372036854775808 ≤ (hi : Int)) (h3 : hi < 18446744073709551616) : zbd z (lo, hi) := by
  unfold zbd
  omega
theorem zSn_sat {xs : Nat → Int32} (h : zrg xs) (h5 : (xs 0 &&& 63).toInt = 19) {lo hi : Nat} (h6 : (lo : Int) ≤ (xs 3).toInt + 9223372036854775808) (h7 : (xs 3).toInt + 9223372036854775808 ≤ (hi : Int)) : zsat (zrho xs) (zSn (lo, hi)) := by
  intro i
  show zbd (zrho xs i) (ziv (zSn (lo, hi)) i)
  obtain ⟨r1, r2, r3, r4⟩ := id h
  match i with
  | 0 => exact zbd32 _
  | 1 => exact zbd32 _
  | 2 => exact zbd32 _
  | 3 =>
    show zbd (xs 3).toInt (lo, hi)
    unfold zbd
    omega
  | 4 => exact zbd32 _
  | 5 =>
    show zbd (xs 0 &&& 63).toInt (9223372036854775827, 9223372036854775827)
    rw [h5]
    exact zbdr (by decide) (by decide) (by decide)
  | 6 => exact zbd64 _
  | 7 => exact zbd64 _
  | 8 => exact zbdr (z := zri xs) (lo := 9223372036854775808) (hi := 9223372036854792191) (by omega) (by omega) (by decide)
  | 9 => exact zbd64 _
  | 10 => exact zbd64 _
  | 11 => exact zbd64 _
  | 12 => exact zbd32 _
  | 13 => exact zbdr (z := zri xs % 4096) (lo := 9223372036854775808) (hi := 9223372036854779903) (by omega) (by omega) (by decide)
  | 14 => exact zbdr (z := zri xs % 1024) (lo := 9223372036854775808) (hi := 9223372036854776831) (by omega) (by omega) (by decide)
  | 15 => exact zbdr (z := zri xs % 256) (lo := 9223372036854775808) (hi := 9223372036854776063) (by omega) (by omega) (by decide)
  | 16 => exact zbdr (z := zri xs % 64) (lo := 9223372036854775808) (hi := 9223372036854775871) (by omega) (by omega) (by decide)
  | 17 => exact zbdr (z := zri xs % 16) (lo := 9223372036854775808) (hi := 9223372036854775823) (by omega) (by omega) (by decide)
  | 18 => exact zbdr (z := zri xs % 4) (lo := 9223372036854775808) (hi := 9223372036854775811) (by omega) (by omega) (by decide)
  | 19 =>
    show zbd (zrho xs 19) (9223372036854771712, 9223372036854788095)
    rw [zmu_19 h]
    exact zbdr (by omega) (by omega) (by decide)
  | 20 =>
    show zbd (zrho xs 20) (9223372036854767616, 9223372036854783999)
    rw [zmu_20 h]
    exact zbdr (by omega) (by omega) (by decide)
  | 21 =>
    show zbd (zrho xs 21) (9223372036854763520, 9223372036854779903)
    rw [zmu_21 h]
    exact zbdr (by omega) (by omega) (by decide)
  | 22 => exact zbdr (z := zri xs % 4096 - 1024) (lo := 9223372036854774784) (hi := 9223372036854778879) (by omega) (by omega) (by decide)
  | 23 => exact zbdr (z := zri xs % 4096 - 2048) (lo := 9223372036854773760) (hi := 9223372036854777855) (by omega) (by omega) (by decide)
  | 24 => exact zbdr (z := zri xs % 4096 - 3072) (lo := 9223372036854772736) (hi := 9223372036854776831) (by omega) (by omega) (by decide)
  | 25 => exact zbdr (z := zri xs % 1024 - 256) (lo := 9223372036854775552) (hi := 9223372036854776575) (by omega) (by omega) (by decide)
  | 26 => exact zbdr (z := zri xs % 1024 - 512) (lo := 9223372036854775296) (hi := 9223372036854776319) (by omega) (by omega) (by decide)
  | 27 => exact zbdr (z := zri xs % 1024 - 768) (lo := 9223372036854775040) (hi := 9223372036854776063) (by omega) (by omega) (by decide)
  | 28 => exact zbdr (z := zri xs % 256 - 64) (lo := 9223372036854775744) (hi := 9223372036854775999) (by omega) (by omega) (by decide)
  | 29 => exact zbdr (z := zri xs % 256 - 128) (lo := 9223372036854775680) (hi := 9223372036854775935) (by omega) (by omega) (by decide)
  | 30 => exact zbdr (z := zri xs % 256 - 192) (lo := 9223372036854775616) (hi := 9223372036854775871) (by omega) (by omega) (by decide)
  | 31 => exact zbdr (z := zri xs % 64 - 16) (lo := 9223372036854775792) (hi := 9223372036854775855) (by omega) (by omega) (by decide)
  | 32 => exact zbdr (z := zri xs % 64 - 32) (lo := 9223372036854775776) (hi := 9223372036854775839) (by omega) (by omega) (by decide)
  | 33 => exact zbdr (z := zri xs % 64 - 48) (lo := 9223372036854775760) (hi := 9223372036854775823) (by omega) (by omega) (by decide)
  | 34 => exact zbdr (z := zri xs % 16 - 4) (lo := 9223372036854775804) (hi := 9223372036854775819) (by omega) (by omega) (by decide)
  | 35 => exact zbdr (z := zri xs % 16 - 8) (lo := 9223372036854775800) (hi := 9223372036854775815) (by omega) (by omega) (by decide)
  | 36 => exact zbdr (z := zri xs % 16 - 12) (lo := 9223372036854775796) (hi := 9223372036854775811) (by omega) (by omega) (by decide)
  | 37 => exact zbdr (z := zri xs % 4 - 1) (lo := 9223372036854775807) (hi := 9223372036854775810) (by omega) (by omega) (by decide)
  | 38 => exact zbdr (z := zri xs % 4 - 2) (lo := 9223372036854775806) (hi := 9223372036854775809) (by omega) (by omega) (by decide)
  | 39 => exact zbdr (z := zri xs % 4 - 3) (lo := 9223372036854775805) (hi := 9223372036854775808) (by omega) (by omega) (by decide)
  | 40 => exact zbdr (z := zri xs / 4096 % 4) (lo := 9223372036854775808) (hi := 9223372036854775811) (by omega) (by omega) (by decide)
  | 41 => exact zbdr (z := zri xs / 1024 % 4) (lo := 9223372036854775808) (hi := 9223372036854775811) (by omega) (by omega) (by decide)
  | 42 => exact zbdr (z := zri xs / 256 % 4) (lo := 9223372036854775808) (hi := 9223372036854775811) (by omega) (by omega) (by decide)
  | 43 => exact zbdr (z := zri xs / 64 % 4) (lo := 9223372036854775808) (hi := 9223372036854775811) (by omega) (by omega) (by decide)
  | 44 => exact zbdr (z := zri xs / 16 % 4) (lo := 9223372036854775808) (hi := 9223372036854775811) (by omega) (by omega) (by decide)
  | 45 => exact zbdr (z := zri xs / 4 % 4) (lo := 9223372036854775808) (hi := 9223372036854775811) (by omega) (by omega) (by decide)
  | 46 => exact zbdr (z := zri xs / 1 % 4) (lo := 9223372036854775808) (hi := 9223372036854775811) (by omega) (by omega) (by decide)
  | 47 =>
    have hw := zrw_b xs
    exact zbdr (z := zrw xs) (lo := 9223372036854775808) (hi := 9223372036854775811) (by omega) (by omega) (by decide)
  | n + 48 => exact zbdw (z := 0) (by omega) (by omega)
theorem zeqI {ρ : Nat → Int} {c k : Nat} (hc : c < 4) (hk : k < 1000) (h : ρ k = (c : Int)) (α : Nat → Nat) : zv ρ α c = zv ρ α (18446744073709551616 + k) := by
  rw [zv_i (by rw [zkd_eq]; omega), zv_i (by rw [zkd_eq]; omega), zvi_k _ (by omega), zvi_u _ (by omega), Nat.add_sub_cancel_left, h]
  rfl
theorem zeqL {ρ : Nat → Int} {a k : Nat} (ha : a < 1000) (hk : k < 1000) (h : ρ a = ρ k) (α : Nat → Nat) : zv ρ α (55340232221128654848 + a) = zv ρ α (55340232221128654848 + k) := by
  rw [zv_l (by rw [zkd_eq]; omega), zv_l (by rw [zkd_eq]; omega), zvl_u _ (by omega), zvl_u _ (by omega), Nat.add_sub_cancel_left, Nat.add_sub_cancel_left, h]
theorem zeqU {ρ : Nat → Int} {a k : Nat} (ha : a < 1000) (hk : k < 1000) (h : ρ a = ρ k) (α : Nat → Nat) : zv ρ α (18446744073709551616 + a) = zv ρ α (18446744073709551616 + k) := by
  rw [zv_i (by rw [zkd_eq]; omega), zv_i (by rw [zkd_eq]; omega), zvi_u _ (by omega), zvi_u _ (by omega), Nat.add_sub_cancel_left, Nat.add_sub_cancel_left, h]
theorem zdg_0_0 {xs : Nat → Int32} (h : zrg xs) (h0 : zri xs < 4096) : zri xs / 4096 % 4 = 0 ∧ zri xs % 4096 = zri xs - 0 := by
  obtain ⟨r1, r2, -, -⟩ := h
  omega
theorem zdg_0_1 {xs : Nat → Int32} (h : zrg xs) (h0 : 4096 ≤ zri xs) (h1 : zri xs < 8192) : zri xs / 4096 % 4 = 1 ∧ zri xs % 4096 = zri xs - 4096 := by
  obtain ⟨r1, r2, -, -⟩ := h
  omega
theorem zdg_0_2 {xs : Nat → Int32} (h : zrg xs) (h0 : 8192 ≤ zri xs) (h1 : zri xs < 12288) : zri xs / 4096 % 4 = 2 ∧ zri xs % 4096 = zri xs - 8192 := by
  obtain ⟨r1, r2, -, -⟩ := h
  omega
theorem zdg_0_3 {xs : Nat → Int32} (h : zrg xs) (h0 : 12288 ≤ zri xs) : zri xs / 4096 % 4 = 3 ∧ zri xs % 4096 = zri xs - 12288 := by
  obtain ⟨r1, r2, -, -⟩ := h
  omega
theorem zdg_1_0 {xs : Nat → Int32} (h : zrg xs) (h0 : zri xs % 4096 < 1024) : zri xs / 1024 % 4 = 0 ∧ zri xs % 1024 = zri xs % 4096 - 0 := by
  obtain ⟨r1, r2, -, -⟩ := h
  omega
theorem zdg_1_1 {xs : Nat → Int32} (h : zrg xs) (h0 : 1024 ≤ zri xs % 4096) (h1 : zri xs % 4096 < 2048) : zri xs / 1024 % 4 = 1 ∧ zri xs % 1024 = zri xs % 4096 - 1024 := by
  obtain ⟨r1, r2, -, -⟩ := h
  omega
theorem zdg_1_2 {xs : Nat → Int32} (h : zrg xs) (h0 : 2048 ≤ zri xs % 4096) (h1 : zri xs % 4096 < 3072) : zri xs / 1024 % 4 = 2 ∧ zri xs % 1024 = zri xs % 4096 - 2048 := by
  obtain ⟨r1, r2, -, -⟩ := h
  omega
theorem zdg_1_3 {xs : Nat → Int32} (h : zrg xs) (h0 : 3072 ≤ zri xs % 4096) : zri xs / 1024 % 4 = 3 ∧ zri xs % 1024 = zri xs % 4096 - 3072 := by
  obtain ⟨r1, r2, -, -⟩ := h
  omega
theorem zdg_2_0 {xs : Nat → Int32} (h : zrg xs) (h0 : zri xs % 1024 < 256) : zri xs / 256 % 4 = 0 ∧ zri xs % 256 = zri xs % 1024 - 0 := by
  obtain ⟨r1, r2, -, -⟩ := h
  omega
theorem zdg_2_1 {xs : Nat → Int32} (h : zrg xs) (h0 : 256 ≤ zri xs % 1024) (h1 : zri xs % 1024 < 512) : zri xs / 256 % 4 = 1 ∧ zri xs % 256 = zri xs % 1024 - 256 := by
  obtain ⟨r1, r2, -, -⟩ := h
  omega
theorem zdg_2_2 {xs : Nat → Int32} (h : zrg xs) (h0 : 512 ≤ zri xs % 1024) (h1 : zri xs % 1024 < 768) : zri xs / 256 % 4 = 2 ∧ zri xs % 256 = zri xs % 1024 - 512 := by
  obtain ⟨r1, r2, -, -⟩ := h
  omega
theorem zdg_2_3 {xs : Nat → Int32} (h : zrg xs) (h0 : 768 ≤ zri xs % 1024) : zri xs / 256 % 4 = 3 ∧ zri xs % 256 = zri xs % 1024 - 768 := by
  obtain ⟨r1, r2, -, -⟩ := h
  omega
theorem zdg_3_0 {xs : Nat → Int32} (h : zrg xs) (h0 : zri xs % 256 < 64) : zri xs / 64 % 4 = 0 ∧ zri xs % 64 = zri xs % 256 - 0 := by
  obtain ⟨r1, r2, -, -⟩ := h
  omega
theorem zdg_3_1 {xs : Nat → Int32} (h : zrg xs) (h0 : 64 ≤ zri xs % 256) (h1 : zri xs % 256 < 128) : zri xs / 64 % 4 = 1 ∧ zri xs % 64 = zri xs % 256 - 64 := by
  obtain ⟨r1, r2, -, -⟩ := h
  omega
theorem zdg_3_2 {xs : Nat → Int32} (h : zrg xs) (h0 : 128 ≤ zri xs % 256) (h1 : zri xs % 256 < 192) : zri xs / 64 % 4 = 2 ∧ zri xs % 64 = zri xs % 256 - 128 := by
  obtain ⟨r1, r2, -, -⟩ := h
  omega
theorem zdg_3_3 {xs : Nat → Int32} (h : zrg xs) (h0 : 192 ≤ zri xs % 256) : zri xs / 64 % 4 = 3 ∧ zri xs % 64 = zri xs % 256 - 192 := by
  obtain ⟨r1, r2, -, -⟩ := h
  omega
theorem zdg_4_0 {xs : Nat → Int32} (h : zrg xs) (h0 : zri xs % 64 < 16) : zri xs / 16 % 4 = 0 ∧ zri xs % 16 = zri xs % 64 - 0 := by
  obtain ⟨r1, r2, -, -⟩ := h
  omega
theorem zdg_4_1 {xs : Nat → Int32} (h : zrg xs) (h0 : 16 ≤ zri xs % 64) (h1 : zri xs % 64 < 32) : zri xs / 16 % 4 = 1 ∧ zri xs % 16 = zri xs % 64 - 16 := by
  obtain ⟨r1, r2, -, -⟩ := h
  omega
theorem zdg_4_2 {xs : Nat → Int32} (h : zrg xs) (h0 : 32 ≤ zri xs % 64) (h1 : zri xs % 64 < 48) : zri xs / 16 % 4 = 2 ∧ zri xs % 16 = zri xs % 64 - 32 := by
  obtain ⟨r1, r2, -, -⟩ := h
  omega
theorem zdg_4_3 {xs : Nat → Int32} (h : zrg xs) (h0 : 48 ≤ zri xs % 64) : zri xs / 16 % 4 = 3 ∧ zri xs % 16 = zri xs % 64 - 48 := by
  obtain ⟨r1, r2, -, -⟩ := h
  omega
theorem zdg_5_0 {xs : Nat → Int32} (h : zrg xs) (h0 : zri xs % 16 < 4) : zri xs / 4 % 4 = 0 ∧ zri xs % 4 = zri xs % 16 - 0 := by
  obtain ⟨r1, r2, -, -⟩ := h
  omega
theorem zdg_5_1 {xs : Nat → Int32} (h : zrg xs) (h0 : 4 ≤ zri xs % 16) (h1 : zri xs % 16 < 8) : zri xs / 4 % 4 = 1 ∧ zri xs % 4 = zri xs % 16 - 4 := by
  obtain ⟨r1, r2, -, -⟩ := h
  omega
theorem zdg_5_2 {xs : Nat → Int32} (h : zrg xs) (h0 : 8 ≤ zri xs % 16) (h1 : zri xs % 16 < 12) : zri xs / 4 % 4 = 2 ∧ zri xs % 4 = zri xs % 16 - 8 := by
  obtain ⟨r1, r2, -, -⟩ := h
  omega
theorem zdg_5_3 {xs : Nat → Int32} (h : zrg xs) (h0 : 12 ≤ zri xs % 16) : zri xs / 4 % 4 = 3 ∧ zri xs % 4 = zri xs % 16 - 12 := by
  obtain ⟨r1, r2, -, -⟩ := h
  omega
theorem zdg_6_0 {xs : Nat → Int32} (h : zrg xs) (h0 : zri xs % 4 < 1) : zri xs / 1 % 4 = 0 ∧ zri xs % 1 = zri xs % 4 - 0 := by
  obtain ⟨r1, r2, -, -⟩ := h
  omega
theorem zdg_6_1 {xs : Nat → Int32} (h : zrg xs) (h0 : 1 ≤ zri xs % 4) (h1 : zri xs % 4 < 2) : zri xs / 1 % 4 = 1 ∧ zri xs % 1 = zri xs % 4 - 1 := by
  obtain ⟨r1, r2, -, -⟩ := h
  omega
theorem zdg_6_2 {xs : Nat → Int32} (h : zrg xs) (h0 : 2 ≤ zri xs % 4) (h1 : zri xs % 4 < 3) : zri xs / 1 % 4 = 2 ∧ zri xs % 1 = zri xs % 4 - 2 := by
  obtain ⟨r1, r2, -, -⟩ := h
  omega
theorem zdg_6_3 {xs : Nat → Int32} (h : zrg xs) (h0 : 3 ≤ zri xs % 4) : zri xs / 1 % 4 = 3 ∧ zri xs % 1 = zri xs % 4 - 3 := by
  obtain ⟨r1, r2, -, -⟩ := h
  omega
