/-! Printed by wip/p1/gen2.py: every method's code against the machine's reading of it -/
theorem zkm8 : (List.range 16).all (fun i => zkM zEe zrr 259 (128 + i)) = true := by decide +kernel
theorem zkm9 : (List.range 16).all (fun i => zkM zEe zrr 259 (144 + i)) = true := by decide +kernel
theorem zkm10 : (List.range 16).all (fun i => zkM zEe zrr 259 (160 + i)) = true := by decide +kernel
theorem zkm11 : (List.range 16).all (fun i => zkM zEe zrr 259 (176 + i)) = true := by decide +kernel
theorem zkm12 : (List.range 16).all (fun i => zkM zEe zrr 259 (192 + i)) = true := by decide +kernel
theorem zkm13 : (List.range 16).all (fun i => zkM zEe zrr 259 (208 + i)) = true := by decide +kernel
theorem zkm14 : (List.range 16).all (fun i => zkM zEe zrr 259 (224 + i)) = true := by decide +kernel
theorem zkm15 : (List.range 16).all (fun i => zkM zEe zrr 259 (240 + i)) = true := by decide +kernel
theorem zkm16 : (List.range 3).all (fun i => zkM zEe zrr 259 (256 + i)) = true := by decide +kernel
theorem zkmt : ∀ a, a < 259 → zkM zEe zrr 259 a = true := by
  intro a ha
  have key : ∀ n lo, (List.range n).all (fun i => zkM zEe zrr 259 (lo + i)) = true → lo ≤ a → a < lo + n → zkM zEe zrr 259 a = true := by
    intro n lo h h1 h2
    have := List.all_eq_true.mp h (a - lo) (List.mem_range.mpr (by omega))
    rw [show lo + (a - lo) = a by omega] at this
    exact this
  rcases Nat.lt_or_ge a 16 with h | h0
  · exact key _ _ zkm0 (by omega) (by omega)
  rcases Nat.lt_or_ge a 32 with h | h1
  · exact key _ _ zkm1 (by omega) (by omega)
  rcases Nat.lt_or_ge a 48 with h | h2
  · exact key _ _ zkm2 (by omega) (by omega)
  rcases Nat.lt_or_ge a 64 with h | h3
  · exact key _ _ zkm3 (by omega) (by omega)
  rcases Nat.lt_or_ge a 80 with h | h4
  · exact key _ _ zkm4 (by omega) (by omega)
  rcases Nat.lt_or_ge a 96 with h | h5
  · exact key _ _ zkm5 (by omega) (by omega)
  rcases Nat.lt_or_ge a 112 with h | h6
  · exact key _ _ zkm6 (by omega) (by omega)
  rcases Nat.lt_or_ge a 128 with h | h7
  · exact key _ _ zkm7 (by omega) (by omega)
  rcases Nat.lt_or_ge a 144 with h | h8
  · exact key _ _ zkm8 (by omega) (by omega)
  rcases Nat.lt_or_ge a 160 with h | h9
  · exact key _ _ zkm9 (by omega) (by omega)
  rcases Nat.lt_or_ge a 176 with h | h10
  · exact key _ _ zkm10 (by omega) (by omega)
  rcases Nat.lt_or_ge a 192 with h | h11
  · exact key _ _ zkm11 (by omega) (by omega)
  rcases Nat.lt_or_ge a 208 with h | h12
  · exact key _ _ zkm12 (by omega) (by omega)
  rcases Nat.lt_or_ge a 224 with h | h13
  · exact key _ _ zkm13 (by omega) (by omega)
  rcases Nat.lt_or_ge a 240 with h | h14
  · exact key _ _ zkm14 (by omega) (by omega)
  rcases Nat.lt_or_ge a 256 with h | h15
  · exact key _ _ zkm15 (by omega) (by omega)
  rcases Nat.lt_or_ge a 259 with h | h16
  · exact key _ _ zkm16 (by omega) (by omega)
  · omega
theorem zkE : ∀ mi, mi < 259 → zMtOK zEe znl (fun a => (zrr a).1) 259 mi := fun mi h => zkM_t zkr h (zkmt mi h)
