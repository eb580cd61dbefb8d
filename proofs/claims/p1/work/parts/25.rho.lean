/-! What the unknowns stand for: the script's ints; what the law makes of them; the digits of the number that it asks 'nth' for -/
def zrA (xs : Nat → Int32) : Int64 := Int64.ofInt (xs 1).toInt <<< ((Int32.ofNat 32).toInt64 &&& 63)
def zrB (xs : Nat → Int32) : Int64 := Int64.ofInt (xs 2).toInt &&& Int64.ofNat 4294967295
def zrC (xs : Nat → Int32) : Int64 := Int64.ofInt (zrA xs).toInt ||| Int64.ofInt (zrB xs).toInt
def zrA2 (xs : Nat → Int32) : Int64 := Int64.ofInt (xs 3).toInt <<< ((Int32.ofNat 32).toInt64 &&& 63)
def zrB2 (xs : Nat → Int32) : Int64 := Int64.ofInt (xs 4).toInt &&& Int64.ofNat 4294967295
def zrC2 (xs : Nat → Int32) : Int64 := Int64.ofInt (zrA2 xs).toInt ||| Int64.ofInt (zrB2 xs).toInt
def zri (xs : Nat → Int32) : Int := (zrC xs).toInt
def zrw (xs : Nat → Int32) : Int :=
  if (xs 3).toInt = 0 then zri xs / 4096 % 4 else if (xs 3).toInt = 1 then zri xs / 1024 % 4 else if (xs 3).toInt = 2 then zri xs / 256 % 4 else if (xs 3).toInt = 3 then zri xs / 64 % 4 else if (xs 3).toInt = 4 then zri xs / 16 % 4 else if (xs 3).toInt = 5 then zri xs / 4 % 4 else if (xs 3).toInt = 6 then zri xs / 1 % 4 else 0
def zrho (xs : Nat → Int32) (i : Nat) : Int := match i with
  | 0 => (xs 0).toInt
  | 1 => (xs 1).toInt
  | 2 => (xs 2).toInt
  | 3 => (xs 3).toInt
  | 4 => (xs 4).toInt
  | 5 => (xs 0 &&& 63).toInt
  | 6 => (zrA xs).toInt
  | 7 => (zrB xs).toInt
  | 8 => zri xs
  | 9 => (zrA2 xs).toInt
  | 10 => (zrB2 xs).toInt
  | 11 => (zrC2 xs).toInt
  | 12 => (xs 1 - 10).toInt
  | 13 => zri xs % 4096
  | 14 => zri xs % 1024
  | 15 => zri xs % 256
  | 16 => zri xs % 64
  | 17 => zri xs % 16
  | 18 => zri xs % 4
  | 19 => ((zrC xs) - Int64.ofNat 4096).toInt
  | 20 => ((zrC xs) - Int64.ofNat 8192).toInt
  | 21 => ((zrC xs) - Int64.ofNat 12288).toInt
  | 22 => zri xs % 4096 - 1024
  | 23 => zri xs % 4096 - 2048
  | 24 => zri xs % 4096 - 3072
  | 25 => zri xs % 1024 - 256
  | 26 => zri xs % 1024 - 512
  | 27 => zri xs % 1024 - 768
  | 28 => zri xs % 256 - 64
  | 29 => zri xs % 256 - 128
  | 30 => zri xs % 256 - 192
  | 31 => zri xs % 64 - 16
  | 32 => zri xs % 64 - 32
  | 33 => zri xs % 64 - 48
  | 34 => zri xs % 16 - 4
  | 35 => zri xs % 16 - 8
  | 36 => zri xs % 16 - 12
  | 37 => zri xs % 4 - 1
  | 38 => zri xs % 4 - 2
  | 39 => zri xs % 4 - 3
  | 40 => zri xs / 4096 % 4
  | 41 => zri xs / 1024 % 4
  | 42 => zri xs / 256 % 4
  | 43 => zri xs / 64 % 4
  | 44 => zri xs / 16 % 4
  | 45 => zri xs / 4 % 4
  | 46 => zri xs / 1 % 4
  | 47 => zrw xs
  | _ => 0
theorem zrho_s (xs : Nat → Int32) : ∀ j, j < 5 → zrho xs j = (xs j).toInt := by
  intro j hj
  match j, hj with
  | 0, _ => rfl
  | 1, _ => rfl
  | 2, _ => rfl
  | 3, _ => rfl
  | 4, _ => rfl
  | n + 5, h => omega
def zSb (q1 q2 q3 q4 q5 q8 : Nat × Nat) : zS := [(nat_lit 9223372034707292160, nat_lit 9223372039002259455), q1, q2, q3, q4, q5, (nat_lit 0, nat_lit 18446744073709551615), (nat_lit 0, nat_lit 18446744073709551615), q8, (nat_lit 0, nat_lit 18446744073709551615), (nat_lit 0, nat_lit 18446744073709551615), (nat_lit 0, nat_lit 18446744073709551615), (nat_lit 9223372034707292160, nat_lit 9223372039002259455)]
def zf32 : Nat × Nat := (nat_lit 9223372034707292160, nat_lit 9223372039002259455)
def zf64 : Nat × Nat := (nat_lit 0, nat_lit 18446744073709551615)
theorem zrm63 (x : Int32) : 0 ≤ (x &&& 63).toInt ∧ (x &&& 63).toInt ≤ 63 := by
  have h1 : (x &&& 63).toBitVec.toNat ≤ 63 := by
    rw [Int32.toBitVec_and, BitVec.toNat_and]
    exact Nat.and_le_right
  have h2 : (x &&& 63).toInt = ((x &&& 63).toBitVec.toNat : Int) := BitVec.toInt_eq_toNat_of_lt (by omega)
  rw [h2]
  omega
theorem zrb32 (x : Int32) : 9223372034707292160 ≤ x.toInt + 9223372036854775808 ∧ x.toInt + 9223372036854775808 ≤ 9223372039002259455 := by
  have h1 := x.le_toInt
  have h2 := x.toInt_lt
  omega
theorem zrb64 (x : Int64) : 0 ≤ x.toInt + 9223372036854775808 ∧ x.toInt + 9223372036854775808 < 18446744073709551616 := by
  have h1 := x.le_toInt
  have h2 := x.toInt_lt
  omega
/-- what holds of one unknown -/
def zbd (z : Int) (q : Nat × Nat) : Prop := 0 ≤ z + 9223372036854775808 ∧ z + 9223372036854775808 < 18446744073709551616 ∧ (q.1 : Int) ≤ z + 9223372036854775808 ∧ z + 9223372036854775808 ≤ (q.2 : Int)
theorem zbd32 (x : Int32) : zbd x.toInt (9223372034707292160, 9223372039002259455) := by
  have := zrb32 x
  unfold zbd
  omega
theorem zbd64 (x : Int64) : zbd x.toInt (0, 18446744073709551615) := by
  have := zrb64 x
  unfold zbd
  omega
theorem zbdw {z : Int} (h1 : -100000 ≤ z) (h2 : z ≤ 100000) : zbd z (0, 18446744073709551615) := by
  unfold zbd
  omega
theorem zrw_b (xs : Nat → Int32) : 0 ≤ zrw xs ∧ zrw xs ≤ 3 := by
  unfold zrw
  repeat' split
  all_goals omega
theorem zrho_sat (xs : Nat → Int32) : zsat (zrho xs) (zSb zf32 zf32 zf32 zf32 (9223372036854775808, 9223372036854775871) zf64) := by
  intro i
  show zbd (zrho xs i) (ziv (zSb zf32 zf32 zf32 zf32 (9223372036854775808, 9223372036854775871) zf64) i)
  match i with
  | 0 => exact zbd32 _
  | 1 => exact zbd32 _
  | 2 => exact zbd32 _
  | 3 => exact zbd32 _
  | 4 => exact zbd32 _
  | 5 =>
    have := zrm63 (xs 0)
    show zbd (xs 0 &&& 63).toInt (9223372036854775808, 9223372036854775871)
    unfold zbd
    omega
  | 6 => exact zbd64 _
  | 7 => exact zbd64 _
  | 8 => exact zbd64 _
  | 9 => exact zbd64 _
  | 10 => exact zbd64 _
  | 11 => exact zbd64 _
  | 12 => exact zbd32 _
  | 13 => exact zbdw (z := zri xs % 4096) (by omega) (by omega)
  | 14 => exact zbdw (z := zri xs % 1024) (by omega) (by omega)
  | 15 => exact zbdw (z := zri xs % 256) (by omega) (by omega)
  | 16 => exact zbdw (z := zri xs % 64) (by omega) (by omega)
  | 17 => exact zbdw (z := zri xs % 16) (by omega) (by omega)
  | 18 => exact zbdw (z := zri xs % 4) (by omega) (by omega)
  | 19 => exact zbd64 _
  | 20 => exact zbd64 _
  | 21 => exact zbd64 _
  | 22 => exact zbdw (z := zri xs % 4096 - 1024) (by omega) (by omega)
  | 23 => exact zbdw (z := zri xs % 4096 - 2048) (by omega) (by omega)
  | 24 => exact zbdw (z := zri xs % 4096 - 3072) (by omega) (by omega)
  | 25 => exact zbdw (z := zri xs % 1024 - 256) (by omega) (by omega)
  | 26 => exact zbdw (z := zri xs % 1024 - 512) (by omega) (by omega)
  | 27 => exact zbdw (z := zri xs % 1024 - 768) (by omega) (by omega)
  | 28 => exact zbdw (z := zri xs % 256 - 64) (by omega) (by omega)
  | 29 => exact zbdw (z := zri xs % 256 - 128) (by omega) (by omega)
  | 30 => exact zbdw (z := zri xs % 256 - 192) (by omega) (by omega)
  | 31 => exact zbdw (z := zri xs % 64 - 16) (by omega) (by omega)
  | 32 => exact zbdw (z := zri xs % 64 - 32) (by omega) (by omega)
  | 33 => exact zbdw (z := zri xs % 64 - 48) (by omega) (by omega)
  | 34 => exact zbdw (z := zri xs % 16 - 4) (by omega) (by omega)
  | 35 => exact zbdw (z := zri xs % 16 - 8) (by omega) (by omega)
  | 36 => exact zbdw (z := zri xs % 16 - 12) (by omega) (by omega)
  | 37 => exact zbdw (z := zri xs % 4 - 1) (by omega) (by omega)
  | 38 => exact zbdw (z := zri xs % 4 - 2) (by omega) (by omega)
  | 39 => exact zbdw (z := zri xs % 4 - 3) (by omega) (by omega)
  | 40 => exact zbdw (z := zri xs / 4096 % 4) (by omega) (by omega)
  | 41 => exact zbdw (z := zri xs / 1024 % 4) (by omega) (by omega)
  | 42 => exact zbdw (z := zri xs / 256 % 4) (by omega) (by omega)
  | 43 => exact zbdw (z := zri xs / 64 % 4) (by omega) (by omega)
  | 44 => exact zbdw (z := zri xs / 16 % 4) (by omega) (by omega)
  | 45 => exact zbdw (z := zri xs / 4 % 4) (by omega) (by omega)
  | 46 => exact zbdw (z := zri xs / 1 % 4) (by omega) (by omega)
  | 47 => exact zbdw (z := zrw xs) (by have := zrw_b xs; omega) (by have := zrw_b xs; omega)
  | n + 48 => exact zbdw (z := 0) (by omega) (by omega)
theorem zvi_u (ρ : Nat → Int) {c : Nat} (h : 18446744073709551616 ≤ c) : zvi ρ c = Int32.ofInt (ρ (c - 18446744073709551616)) := by unfold zvi; rw [if_neg (by omega)]
theorem zvl_u (ρ : Nat → Int) {c : Nat} (h : 55340232221128654848 ≤ c) : zvl ρ c = Int64.ofInt (ρ (c - 55340232221128654848)) := by unfold zvl; rw [if_neg (by omega)]
theorem zvi_k (ρ : Nat → Int) {c : Nat} (h : c < 18446744073709551616) : zvi ρ c = Int32.ofNat c := by unfold zvi; rw [if_pos h]
theorem zvl_k (ρ : Nat → Int) {c : Nat} (h : c < 55340232221128654848) : zvl ρ c = Int64.ofNat (c - 36893488147419103232) := by unfold zvl; rw [if_pos h]
theorem zdq_1 {ρ : Nat → Int} {a b c : Nat} (h : zvi ρ c = zvi ρ a - zvi ρ b) : zdq ρ (1, a, b, c) := ⟨fun q => absurd (show (1 : Nat) = 0 from q) (by decide), fun _ => h, fun q => absurd (show (1 : Nat) = 2 from q) (by decide), fun q => absurd (show (1 : Nat) = 3 from q) (by decide), fun q => absurd (show (1 : Nat) = 4 from q) (by decide), fun q => absurd (show (1 : Nat) = 6 from q) (by decide), (show (1 : Nat) ≠ 9 by decide), (show (1 : Nat) ≠ 10 by decide), fun q => absurd (show (1 : Nat) = 20 from q) (by decide), fun q => absurd (show (1 : Nat) = 21 from q) (by decide), fun q => absurd (show (1 : Nat) = 23 from q) (by decide), fun q => absurd (show (1 : Nat) = 24 from q) (by decide), fun q => absurd (show (1 : Nat) = 30 from q) (by decide), (show (1 : Nat) ≠ 32 by decide)⟩
theorem zdq_3 {ρ : Nat → Int} {a b c : Nat} (h : zvi ρ c = zvi ρ a &&& zvi ρ b) : zdq ρ (3, a, b, c) := ⟨fun q => absurd (show (3 : Nat) = 0 from q) (by decide), fun q => absurd (show (3 : Nat) = 1 from q) (by decide), fun q => absurd (show (3 : Nat) = 2 from q) (by decide), fun _ => h, fun q => absurd (show (3 : Nat) = 4 from q) (by decide), fun q => absurd (show (3 : Nat) = 6 from q) (by decide), (show (3 : Nat) ≠ 9 by decide), (show (3 : Nat) ≠ 10 by decide), fun q => absurd (show (3 : Nat) = 20 from q) (by decide), fun q => absurd (show (3 : Nat) = 21 from q) (by decide), fun q => absurd (show (3 : Nat) = 23 from q) (by decide), fun q => absurd (show (3 : Nat) = 24 from q) (by decide), fun q => absurd (show (3 : Nat) = 30 from q) (by decide), (show (3 : Nat) ≠ 32 by decide)⟩
theorem zdq_21 {ρ : Nat → Int} {a b c : Nat} (h : zvl ρ c = zvl ρ a - zvl ρ b) : zdq ρ (21, a, b, c) := ⟨fun q => absurd (show (21 : Nat) = 0 from q) (by decide), fun q => absurd (show (21 : Nat) = 1 from q) (by decide), fun q => absurd (show (21 : Nat) = 2 from q) (by decide), fun q => absurd (show (21 : Nat) = 3 from q) (by decide), fun q => absurd (show (21 : Nat) = 4 from q) (by decide), fun q => absurd (show (21 : Nat) = 6 from q) (by decide), (show (21 : Nat) ≠ 9 by decide), (show (21 : Nat) ≠ 10 by decide), fun q => absurd (show (21 : Nat) = 20 from q) (by decide), fun _ => h, fun q => absurd (show (21 : Nat) = 23 from q) (by decide), fun q => absurd (show (21 : Nat) = 24 from q) (by decide), fun q => absurd (show (21 : Nat) = 30 from q) (by decide), (show (21 : Nat) ≠ 32 by decide)⟩
theorem zdq_23 {ρ : Nat → Int} {a b c : Nat} (h : zvl ρ c = zvl ρ a &&& zvl ρ b) : zdq ρ (23, a, b, c) := ⟨fun q => absurd (show (23 : Nat) = 0 from q) (by decide), fun q => absurd (show (23 : Nat) = 1 from q) (by decide), fun q => absurd (show (23 : Nat) = 2 from q) (by decide), fun q => absurd (show (23 : Nat) = 3 from q) (by decide), fun q => absurd (show (23 : Nat) = 4 from q) (by decide), fun q => absurd (show (23 : Nat) = 6 from q) (by decide), (show (23 : Nat) ≠ 9 by decide), (show (23 : Nat) ≠ 10 by decide), fun q => absurd (show (23 : Nat) = 20 from q) (by decide), fun q => absurd (show (23 : Nat) = 21 from q) (by decide), fun _ => h, fun q => absurd (show (23 : Nat) = 24 from q) (by decide), fun q => absurd (show (23 : Nat) = 30 from q) (by decide), (show (23 : Nat) ≠ 32 by decide)⟩
theorem zdq_24 {ρ : Nat → Int} {a b c : Nat} (h : zvl ρ c = zvl ρ a ||| zvl ρ b) : zdq ρ (24, a, b, c) := ⟨fun q => absurd (show (24 : Nat) = 0 from q) (by decide), fun q => absurd (show (24 : Nat) = 1 from q) (by decide), fun q => absurd (show (24 : Nat) = 2 from q) (by decide), fun q => absurd (show (24 : Nat) = 3 from q) (by decide), fun q => absurd (show (24 : Nat) = 4 from q) (by decide), fun q => absurd (show (24 : Nat) = 6 from q) (by decide), (show (24 : Nat) ≠ 9 by decide), (show (24 : Nat) ≠ 10 by decide), fun q => absurd (show (24 : Nat) = 20 from q) (by decide), fun q => absurd (show (24 : Nat) = 21 from q) (by decide), fun q => absurd (show (24 : Nat) = 23 from q) (by decide), fun _ => h, fun q => absurd (show (24 : Nat) = 30 from q) (by decide), (show (24 : Nat) ≠ 32 by decide)⟩
theorem zdq_30 {ρ : Nat → Int} {a b c : Nat} (h : zvl ρ c = zvl ρ a <<< ((zvi ρ b).toInt64 &&& 63)) : zdq ρ (30, a, b, c) := ⟨fun q => absurd (show (30 : Nat) = 0 from q) (by decide), fun q => absurd (show (30 : Nat) = 1 from q) (by decide), fun q => absurd (show (30 : Nat) = 2 from q) (by decide), fun q => absurd (show (30 : Nat) = 3 from q) (by decide), fun q => absurd (show (30 : Nat) = 4 from q) (by decide), fun q => absurd (show (30 : Nat) = 6 from q) (by decide), (show (30 : Nat) ≠ 9 by decide), (show (30 : Nat) ≠ 10 by decide), fun q => absurd (show (30 : Nat) = 20 from q) (by decide), fun q => absurd (show (30 : Nat) = 21 from q) (by decide), fun q => absurd (show (30 : Nat) = 23 from q) (by decide), fun q => absurd (show (30 : Nat) = 24 from q) (by decide), fun _ => h, (show (30 : Nat) ≠ 32 by decide)⟩
/-- an unknown's word, by its number -/
theorem zvi_r (xs : Nat → Int32) (n : Nat) : zvi (zrho xs) (18446744073709551616 + n) = Int32.ofInt (zrho xs n) := by rw [zvi_u _ (by omega), Nat.add_sub_cancel_left]
theorem zvl_r (xs : Nat → Int32) (n : Nat) : zvl (zrho xs) (55340232221128654848 + n) = Int64.ofInt (zrho xs n) := by rw [zvl_u _ (by omega), Nat.add_sub_cancel_left]
theorem zvl_n (xs : Nat → Int32) {n : Nat} (h : n < 18446744073709551616) : zvl (zrho xs) (36893488147419103232 + n) = Int64.ofNat n := by rw [zvl_k _ (by omega), Nat.add_sub_cancel_left]
theorem zvi_n (xs : Nat → Int32) {n : Nat} (h : n < 18446744073709551616) : zvi (zrho xs) n = Int32.ofNat n := zvi_k _ h
theorem zD0_ok (xs : Nat → Int32) : zdOK (zrho xs) zD0 := by
  intro q hq
  simp only [zD0, List.mem_cons, List.not_mem_nil, or_false] at hq
  rcases hq with rfl | rfl | rfl | rfl | rfl | rfl | rfl | rfl
  · refine zdq_3 ((zvi_r xs 5).trans (?_ : _ = _)) 
    rw [show (nat_lit 18446744073709551616) = 18446744073709551616 + 0 from rfl, zvi_r xs 0, zvi_n xs (n := nat_lit 63) (by decide)]
    show Int32.ofInt (xs 0 &&& 63).toInt = Int32.ofInt (xs 0).toInt &&& Int32.ofNat 63
    rw [Int32.ofInt_toInt, Int32.ofInt_toInt]
    rfl
  · refine zdq_30 ((zvl_r xs 6).trans (?_ : _ = _))
    rw [show (nat_lit 55340232221128654849) = 55340232221128654848 + 1 from rfl, zvl_r xs 1, zvi_n xs (n := nat_lit 32) (by decide)]
    show Int64.ofInt (zrA xs).toInt = Int64.ofInt (xs 1).toInt <<< ((Int32.ofNat 32).toInt64 &&& 63)
    rw [Int64.ofInt_toInt]
    rfl
  · refine zdq_23 ((zvl_r xs 7).trans (?_ : _ = _))
    rw [show (nat_lit 55340232221128654850) = 55340232221128654848 + 2 from rfl, zvl_r xs 2, show zvl (zrho xs) 36893488151714070527 = Int64.ofNat 4294967295 from zvl_n xs (n := 4294967295) (by decide)]
    show Int64.ofInt (zrB xs).toInt = Int64.ofInt (xs 2).toInt &&& Int64.ofNat 4294967295
    rw [Int64.ofInt_toInt]
    rfl
  · refine zdq_24 ((zvl_r xs 8).trans (?_ : _ = _))
    rw [show (nat_lit 55340232221128654854) = 55340232221128654848 + 6 from rfl, zvl_r xs 6, show (nat_lit 55340232221128654855) = 55340232221128654848 + 7 from rfl, zvl_r xs 7]
    show Int64.ofInt (zrC xs).toInt = Int64.ofInt (zrA xs).toInt ||| Int64.ofInt (zrB xs).toInt
    rw [Int64.ofInt_toInt]
    rfl
  · refine zdq_30 ((zvl_r xs 9).trans (?_ : _ = _))
    rw [show (nat_lit 55340232221128654851) = 55340232221128654848 + 3 from rfl, zvl_r xs 3, zvi_n xs (n := nat_lit 32) (by decide)]
    show Int64.ofInt (zrA2 xs).toInt = Int64.ofInt (xs 3).toInt <<< ((Int32.ofNat 32).toInt64 &&& 63)
    rw [Int64.ofInt_toInt]
    rfl
  · refine zdq_23 ((zvl_r xs 10).trans (?_ : _ = _))
    rw [show (nat_lit 55340232221128654852) = 55340232221128654848 + 4 from rfl, zvl_r xs 4, show zvl (zrho xs) 36893488151714070527 = Int64.ofNat 4294967295 from zvl_n xs (n := 4294967295) (by decide)]
    show Int64.ofInt (zrB2 xs).toInt = Int64.ofInt (xs 4).toInt &&& Int64.ofNat 4294967295
    rw [Int64.ofInt_toInt]
    rfl
  · refine zdq_24 ((zvl_r xs 11).trans (?_ : _ = _))
    rw [show (nat_lit 55340232221128654857) = 55340232221128654848 + 9 from rfl, zvl_r xs 9, show (nat_lit 55340232221128654858) = 55340232221128654848 + 10 from rfl, zvl_r xs 10]
    show Int64.ofInt (zrC2 xs).toInt = Int64.ofInt (zrA2 xs).toInt ||| Int64.ofInt (zrB2 xs).toInt
    rw [Int64.ofInt_toInt]
    rfl
  · refine zdq_1 ((zvi_r xs 12).trans (?_ : _ = _))
    rw [show (nat_lit 18446744073709551617) = 18446744073709551616 + 1 from rfl, zvi_r xs 1, zvi_n xs (n := nat_lit 10) (by decide)]
    show Int32.ofInt (xs 1 - 10).toInt = Int32.ofInt (xs 1).toInt - Int32.ofNat 10
    rw [Int32.ofInt_toInt, Int32.ofInt_toInt]
    rfl
noncomputable def zall (l : List zO) : Bool := List.rec (motive := fun _ => Bool) true (fun o _ ih => cond (Nat.beq o.1 (nat_lit 1)) (cond (Nat.beq o.2.1 (nat_lit 1)) ih false) false) l
theorem zall_t : ∀ (l : List zO), zall l = true → zgood (fun o => o.1 = 1 ∧ o.2.1 = 1) l
  | [], _ => fun o ho => by cases ho
  | a :: t, h => by
    have h : cond (Nat.beq a.1 1) (cond (Nat.beq a.2.1 1) (zall t) false) false = true := h
    cases h1 : Nat.beq a.1 1 with
    | false => rw [h1] at h; cases h
    | true =>
      cases h2 : Nat.beq a.2.1 1 with
      | false => rw [h1, h2] at h; cases h
      | true =>
        rw [h1, h2] at h
        intro o ho
        rcases List.mem_cons.mp ho with rfl | ho
        · exact ⟨zbeq_t h1, zbeq_t h2⟩
        · exact zall_t t h o ho
/-- the law's run, at a script of five ints, the unknowns within their intervals -/
def zLaw (S : zS) : Prop := ∀ (p : Program) (e : Env) (s : State) (m : MethodId) (below : List Frame) (meth : Method) (c : Code) (l : Launch) (b : Nat) (xs : Nat → Int32), lw_At p s m meth c b 5 xs → zsat (zrho xs) S →
  W p l e room_1 s m #[Value.ref b] below meth c s.heap [] 0 0 (lw_Z below #[Value.ref b] s) (entryFrame m ([Value.ref b] : List Value).toArray 4)
noncomputable def zlaw (L : Nat) (S : zS) : Bool := zall (zloop (zHs zEe zD0 (zrun zEe zD0 znm zno znz (nat_lit 1000000) (nat_lit 40)) (znz 0)) zc0 (nat_lit 1000000) 0 zL0 [] (S, zH0 L, 1, nat_lit 600000, nat_lit 7302250))
theorem zlaw_run {S : zS} (h : zlaw 5 S = true) : zLaw S := fun p e s m below meth c l b xs C0 hS => zlaw_gen (k := 0) (d := 40) l (Nat.le_refl 5) C0 (zrho_s xs) (zD0_ok xs) (by decide) (zoc_no l _ zno) hS (zall_t _ h)
theorem zLaw_cut {S : zS} (i mid : Nat) (h1 : zLaw (S.set i ((ziv S i).1, mid))) (h2 : zLaw (S.set i (mid + 1, (ziv S i).2))) : zLaw S := by
  intro p e s m below meth c l b xs C0 hS
  obtain ⟨g1, g2, -⟩ := zbv_iv hS i
  rcases Nat.lt_or_ge mid (zbv (zrho xs) i) with g | g
  · exact h2 p e s m below meth c l b xs C0 (zsat_setb hS g g2)
  · exact h1 p e s m below meth c l b xs C0 (zsat_setb hS g1 g)
theorem zcut1 {q2 q3 q4 q5 q8 : Nat × Nat} {lo hi : Nat} (mid mid1 : Nat) (e : Nat.succ mid = mid1) (h1 : zLaw (zSb (lo, mid) q2 q3 q4 q5 q8)) (h2 : zLaw (zSb (mid1, hi) q2 q3 q4 q5 q8)) : zLaw (zSb (lo, hi) q2 q3 q4 q5 q8) := by
  subst e
  exact zLaw_cut (S := zSb (lo, hi) q2 q3 q4 q5 q8) 1 mid h1 h2
theorem zcut2 {q1 q3 q4 q5 q8 : Nat × Nat} {lo hi : Nat} (mid mid1 : Nat) (e : Nat.succ mid = mid1) (h1 : zLaw (zSb q1 (lo, mid) q3 q4 q5 q8)) (h2 : zLaw (zSb q1 (mid1, hi) q3 q4 q5 q8)) : zLaw (zSb q1 (lo, hi) q3 q4 q5 q8) := by
  subst e
  exact zLaw_cut (S := zSb q1 (lo, hi) q3 q4 q5 q8) 2 mid h1 h2
theorem zcut3 {q1 q2 q4 q5 q8 : Nat × Nat} {lo hi : Nat} (mid mid1 : Nat) (e : Nat.succ mid = mid1) (h1 : zLaw (zSb q1 q2 (lo, mid) q4 q5 q8)) (h2 : zLaw (zSb q1 q2 (mid1, hi) q4 q5 q8)) : zLaw (zSb q1 q2 (lo, hi) q4 q5 q8) := by
  subst e
  exact zLaw_cut (S := zSb q1 q2 (lo, hi) q4 q5 q8) 3 mid h1 h2
theorem zcut4 {q1 q2 q3 q5 q8 : Nat × Nat} {lo hi : Nat} (mid mid1 : Nat) (e : Nat.succ mid = mid1) (h1 : zLaw (zSb q1 q2 q3 (lo, mid) q5 q8)) (h2 : zLaw (zSb q1 q2 q3 (mid1, hi) q5 q8)) : zLaw (zSb q1 q2 q3 (lo, hi) q5 q8) := by
  subst e
  exact zLaw_cut (S := zSb q1 q2 q3 (lo, hi) q5 q8) 4 mid h1 h2
theorem zcut5 {q1 q2 q3 q4 q8 : Nat × Nat} {lo hi : Nat} (mid mid1 : Nat) (e : Nat.succ mid = mid1) (h1 : zLaw (zSb q1 q2 q3 q4 (lo, mid) q8)) (h2 : zLaw (zSb q1 q2 q3 q4 (mid1, hi) q8)) : zLaw (zSb q1 q2 q3 q4 (lo, hi) q8) := by
  subst e
  exact zLaw_cut (S := zSb q1 q2 q3 q4 (lo, hi) q8) 5 mid h1 h2
theorem zcut8 {q1 q2 q3 q4 q5 : Nat × Nat} {lo hi : Nat} (mid mid1 : Nat) (e : Nat.succ mid = mid1) (h1 : zLaw (zSb q1 q2 q3 q4 q5 (lo, mid))) (h2 : zLaw (zSb q1 q2 q3 q4 q5 (mid1, hi))) : zLaw (zSb q1 q2 q3 q4 q5 (lo, hi)) := by
  subst e
  exact zLaw_cut (S := zSb q1 q2 q3 q4 q5 (lo, hi)) 8 mid h1 h2
