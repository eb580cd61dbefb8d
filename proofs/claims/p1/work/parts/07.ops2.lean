/-! Constants, sums, branches -/
def zGW : List Cond := lw_tbl.filter goodWord
theorem zGW_good {w : Cond} (h : w ∈ zGW) : w ∈ lw_tbl ∧ ((w.onTables && w.keeps) = true ∨ ∃ ty, w = .arrayClass ty) := by
  obtain ⟨h1, h2⟩ := List.mem_filter.mp h
  exact ⟨h1, good_of_word h2⟩
-- what the table of told sums says
def zdq (ρ : Nat → Int) (q : Nat × Nat × Nat × Nat) : Prop :=
  (q.1 = 0 → zvi ρ q.2.2.2 = zvi ρ q.2.1 + zvi ρ q.2.2.1) ∧ (q.1 = 1 → zvi ρ q.2.2.2 = zvi ρ q.2.1 - zvi ρ q.2.2.1) ∧ (q.1 = 2 → zvi ρ q.2.2.2 = zvi ρ q.2.1 * zvi ρ q.2.2.1) ∧
  (q.1 = 3 → zvi ρ q.2.2.2 = zvi ρ q.2.1 &&& zvi ρ q.2.2.1) ∧ (q.1 = 4 → zvi ρ q.2.2.2 = zvi ρ q.2.1 ||| zvi ρ q.2.2.1) ∧ (q.1 = 6 → zvi ρ q.2.2.2 = zvi ρ q.2.1 <<< (zvi ρ q.2.2.1 &&& 31)) ∧ q.1 ≠ 9 ∧ q.1 ≠ 10 ∧
  (q.1 = 20 → zvl ρ q.2.2.2 = zvl ρ q.2.1 + zvl ρ q.2.2.1) ∧ (q.1 = 21 → zvl ρ q.2.2.2 = zvl ρ q.2.1 - zvl ρ q.2.2.1) ∧ (q.1 = 23 → zvl ρ q.2.2.2 = zvl ρ q.2.1 &&& zvl ρ q.2.2.1) ∧
  (q.1 = 24 → zvl ρ q.2.2.2 = zvl ρ q.2.1 ||| zvl ρ q.2.2.1) ∧ (q.1 = 30 → zvl ρ q.2.2.2 = zvl ρ q.2.1 <<< ((zvi ρ q.2.2.1).toInt64 &&& 63)) ∧ q.1 ≠ 32
def zdOK (ρ : Nat → Int) (Df : zD) : Prop := ∀ q ∈ Df, zdq ρ q
theorem zdf_in (Df : zD) (o x y : Nat) : zdf Df o x y = 110680464442257309696 ∨ (o, x, y, zdf Df o x y) ∈ Df := by
  induction Df with
  | nil => exact Or.inl rfl
  | cons q t ih =>
    obtain ⟨q1, q2, q3, q4⟩ := q
    have key : zdf ((q1, q2, q3, q4) :: t) o x y = cond (Nat.beq q1 o) (cond (Nat.beq q2 x) (cond (Nat.beq q3 y) q4 (zdf t o x y)) (zdf t o x y)) (zdf t o x y) := rfl
    have up : zdf ((q1, q2, q3, q4) :: t) o x y = zdf t o x y → (zdf ((q1, q2, q3, q4) :: t) o x y = 110680464442257309696 ∨ (o, x, y, zdf ((q1, q2, q3, q4) :: t) o x y) ∈ (q1, q2, q3, q4) :: t) := by
      intro e
      rw [e]
      rcases ih with h | h
      · exact Or.inl h
      · exact Or.inr (List.mem_cons_of_mem _ h)
    cases h1 : Nat.beq q1 o with
    | false => exact up (by rw [key, h1, cond_false])
    | true =>
      cases h2 : Nat.beq q2 x with
      | false => exact up (by rw [key, h1, h2, cond_true, cond_false])
      | true =>
        cases h3 : Nat.beq q3 y with
        | false => exact up (by rw [key, h1, h2, h3, cond_true, cond_true, cond_false])
        | true =>
          right
          have e : zdf ((q1, q2, q3, q4) :: t) o x y = q4 := by rw [key, h1, h2, h3, cond_true, cond_true, cond_true]
          rw [e, zbeq_t h1, zbeq_t h2, zbeq_t h3]
          exact List.mem_cons_self
-- comparisons
def zcp (c : Nat) (X Y : Int) : Prop := match c with
  | 0 => X = Y
  | 1 => ¬ X = Y
  | 2 => X < Y
  | 3 => Y ≤ X
  | 4 => Y < X
  | _ => X ≤ Y
theorem zci_iff (c : Nat) {a b : Nat} {X Y K : Int} (ha : (a : Int) = X + K) (hb : (b : Int) = Y + K) : zci c a b = true ↔ zcp c X Y := by
  match c with
  | 0 => show Nat.beq a b = true ↔ X = Y; rw [Nat.beq_eq]; omega
  | 1 =>
    show (not (Nat.beq a b)) = true ↔ ¬ X = Y
    rw [Bool.not_eq_true', ← Bool.not_eq_true, Nat.beq_eq]; omega
  | 2 => show Nat.ble (Nat.succ a) b = true ↔ X < Y; rw [Nat.ble_eq]; omega
  | 3 => show Nat.ble b a = true ↔ Y ≤ X; rw [Nat.ble_eq]; omega
  | 4 => show Nat.ble (Nat.succ b) a = true ↔ Y < X; rw [Nat.ble_eq]; omega
  | n + 5 => show Nat.ble a b = true ↔ X ≤ Y; rw [Nat.ble_eq]; omega
theorem zci_nat (c a b : Nat) : zci c a b = true ↔ zcp c a b := zci_iff c (K := 0) (by omega) (by omega)
theorem zcp_lt (c : Nat) {a b : Int} (h : a < b) : zcp c a b ↔ zcp c 0 1 := by
  match c with
  | 0 => show a = b ↔ (0 : Int) = 1; omega
  | 1 => show ¬ a = b ↔ ¬ (0 : Int) = 1; omega
  | 2 => show a < b ↔ (0 : Int) < 1; omega
  | 3 => show b ≤ a ↔ (1 : Int) ≤ 0; omega
  | 4 => show b < a ↔ (1 : Int) < 0; omega
  | n + 5 => show a ≤ b ↔ (0 : Int) ≤ 1; omega
theorem zcp_gt (c : Nat) {a b : Int} (h : b < a) : zcp c a b ↔ zcp c 1 0 := by
  match c with
  | 0 => show a = b ↔ (1 : Int) = 0; omega
  | 1 => show ¬ a = b ↔ ¬ (1 : Int) = 0; omega
  | 2 => show a < b ↔ (1 : Int) < 0; omega
  | 3 => show b ≤ a ↔ (0 : Int) ≤ 1; omega
  | 4 => show b < a ↔ (0 : Int) < 1; omega
  | n + 5 => show a ≤ b ↔ (1 : Int) ≤ 0; omega
theorem zcp_eq (c : Nat) (a : Int) : zcp c a a ↔ zcp c 0 0 := by
  match c with
  | 0 => show a = a ↔ (0 : Int) = 0; omega
  | 1 => show ¬ a = a ↔ ¬ (0 : Int) = 0; omega
  | 2 => show a < a ↔ (0 : Int) < 0; omega
  | 3 => show a ≤ a ↔ (0 : Int) ≤ 0; omega
  | 4 => show a < a ↔ (0 : Int) < 0; omega
  | n + 5 => show a ≤ a ↔ (0 : Int) ≤ 0; omega
theorem zcp_sw (c : Nat) (hc : c ≤ 5) (a b : Int) : zcp (zsw c) b a ↔ zcp c a b := by
  match c, hc with
  | 0, _ => show b = a ↔ a = b; omega
  | 1, _ => show ¬ b = a ↔ ¬ a = b; omega
  | 2, _ => show a < b ↔ a < b; omega
  | 3, _ => show b ≤ a ↔ b ≤ a; omega
  | 4, _ => show b < a ↔ b < a; omega
  | 5, _ => show a ≤ b ↔ a ≤ b; omega
/-- the way that a comparison goes, with some unknowns' intervals -/
def zway (P : zO → Prop) (ρ : Nat → Int) (g : Prop) (kT kF : zS → List zO) : Prop := (g ∧ ∃ S1, zsat ρ S1 ∧ zgood P (kT S1)) ∨ (¬ g ∧ ∃ S1, zsat ρ S1 ∧ zgood P (kF S1))
theorem zway_of {P : zO → Prop} {ρ : Nat → Int} {g : Prop} {b : Bool} {kT kF : zS → List zO} {S1 : zS} (hs : zsat ρ S1) (hb : b = true ↔ g) (h : zgood P ((cond b kT kF) S1)) : zway P ρ g kT kF := by
  cases b with
  | true => exact Or.inl ⟨hb.mp rfl, S1, hs, h⟩
  | false => exact Or.inr ⟨fun q => (by have h9 := hb.mpr q; cases h9), S1, hs, h⟩
theorem zmn_le (a b : Nat) : zmn a b ≤ a ∧ zmn a b ≤ b := by
  unfold zmn
  cases h : Nat.ble a b with
  | true => have := zble_t h; rw [cond_true]; omega
  | false => have := zble_f h; rw [cond_false]; omega
theorem zmn_ge {a b v : Nat} (h1 : v ≤ a) (h2 : v ≤ b) : v ≤ zmn a b := by
  unfold zmn
  cases h : Nat.ble a b with
  | true => exact h1
  | false => exact h2
theorem zmx_le {a b v : Nat} (h1 : a ≤ v) (h2 : b ≤ v) : zmx a b ≤ v := by
  unfold zmx
  cases h : Nat.ble a b with
  | true => exact h2
  | false => exact h1
theorem zref_ok {P : zO → Prop} {ρ : Nat → Int} {S : zS} {i v c : Nat} {kT kF : zS → List zO} (hs : zsat ρ S) (h : zgood P (zref S i (ziv S i) v c kT kF)) : zway P ρ (zcp c (zbv ρ i : Nat) v) kT kF := by
  obtain ⟨i1, i2, i3⟩ := zbv_iv hs i
  have lt_ : zbv ρ i < v → (∃ S1, zsat ρ S1 ∧ zgood P (zlt c kT kF S1)) → zway P ρ (zcp c (zbv ρ i : Nat) v) kT kF := by
    rintro q ⟨S1, h1, h2⟩
    exact zway_of h1 ((zci_nat c 0 1).trans (zcp_lt c (by omega)).symm) h2
  have gt_ : v < zbv ρ i → (∃ S1, zsat ρ S1 ∧ zgood P (zgt c kT kF S1)) → zway P ρ (zcp c (zbv ρ i : Nat) v) kT kF := by
    rintro q ⟨S1, h1, h2⟩
    exact zway_of h1 ((zci_nat c 1 0).trans (zcp_gt c (by omega)).symm) h2
  have eq_ : zbv ρ i = v → (∃ S1, zsat ρ S1 ∧ zgood P (zeq c kT kF S1)) → zway P ρ (zcp c (zbv ρ i : Nat) v) kT kF := by
    rintro q ⟨S1, h1, h2⟩
    rw [q]
    exact zway_of h1 ((zci_nat c 0 0).trans (zcp_eq c v).symm) h2
  unfold zref at h
  simp only [zpre, zsuc] at h
  rcases zgi h with ⟨-, h⟩ | ⟨c1, h⟩
  · obtain ⟨h1, h⟩ := zgood_app h
    obtain ⟨h2, h3⟩ := zgood_app h
    rcases Nat.lt_trichotomy (zbv ρ i) v with q | q | q
    · exact lt_ q (zpc_in h1 hs i1 (zmn_ge i2 (by omega)))
    · exact eq_ q (zpc_in h2 hs (zmx_le i1 (by omega)) (zmn_ge i2 (by omega)))
    · exact gt_ q (zpc_in h3 hs (zmx_le i1 (by omega)) i2)
  · have c1 := zble_f c1
    rcases zgi h with ⟨c3, h⟩ | ⟨c3, h⟩
    · have c3 := zble_t c3
      obtain ⟨h1, h2⟩ := zgood_app h
      rcases Nat.lt_or_ge (zbv ρ i) v with q | q
      · exact lt_ q (zpc_in h1 hs i1 (zmn_ge i2 (by omega)))
      · obtain ⟨S1, g1, g2⟩ := zpc_in h2 hs (zmx_le i1 q) i2
        refine zway_of g1 ((zci_nat c 1 0).trans ?_) g2
        rcases (show c = 2 ∨ c = 3 by omega) with rfl | rfl
        · show ((1 : Nat) : Int) < ((0 : Nat) : Int) ↔ _; show _ ↔ ((zbv ρ i : Nat) : Int) < (v : Int); omega
        · show ((0 : Nat) : Int) ≤ ((1 : Nat) : Int) ↔ _; show _ ↔ (v : Int) ≤ ((zbv ρ i : Nat) : Int); omega
    · have c3 := zble_f c3
      obtain ⟨h1, h2⟩ := zgood_app h
      rcases Nat.lt_or_ge v (zbv ρ i) with q | q
      · exact gt_ q (zpc_in h2 hs (zmx_le i1 (by omega)) i2)
      · obtain ⟨S1, g1, g2⟩ := zpc_in h1 hs i1 (zmn_ge i2 q)
        refine zway_of g1 ((zci_nat c 0 1).trans ?_) g2
        match c, c3 with
        | 4, _ => show ((1 : Nat) : Int) < ((0 : Nat) : Int) ↔ _; show _ ↔ (v : Int) < ((zbv ρ i : Nat) : Int); omega
        | n + 5, _ => show ((0 : Nat) : Int) ≤ ((1 : Nat) : Int) ↔ _; show _ ↔ ((zbv ρ i : Nat) : Int) ≤ (v : Int); omega
theorem zbr2_ok {P : zO → Prop} (h0 : ∀ o, P o → o.1 = 1) {ρ : Nat → Int} {S : zS} {kd i v c : Nat} {kT kF : zS → List zO} (hs : zsat ρ S) (h : zgood P (zbr2 S kd i (ziv S i) v c kT kF)) : zin kd (ziv S i) = true ∧ zway P ρ (zcp c (zbv ρ i : Nat) v) kT kF := by
  obtain ⟨i1, i2, i3⟩ := zbv_iv hs i
  unfold zbr2 at h
  simp only [zsuc] at h
  obtain ⟨h1, h⟩ := zgc h0 h
  refine ⟨h1, ?_⟩
  rcases zgi h with ⟨q, h⟩ | ⟨q, h⟩
  · have q := zble_t q
    exact zway_of hs ((zci_nat c 0 1).trans (zcp_lt c (by omega)).symm) h
  · rcases zgi h with ⟨q2, h⟩ | ⟨q2, h⟩
    · have q2 := zble_t q2
      exact zway_of hs ((zci_nat c 1 0).trans (zcp_gt c (by omega)).symm) h
    · exact zref_ok hs h
/-- a value of kind kd (0 or 1) as a number -/
def zvI (ρ : Nat → Int) (kd c : Nat) : Int := if kd = 0 then (zvi ρ c).toInt else (zvl ρ c).toInt
theorem zknown {ρ : Nat → Int} {kd x : Nat} (hkd : kd ≤ 1) (hk : zkd x = kd) (hy : zsy x = false) (hc : zinc kd x = true) : ((zbi x : Nat) : Int) = zvI ρ kd x + 9223372036854775808 := by
  rw [zkd_eq] at hk
  rcases (show kd = 0 ∨ kd = 1 by omega) with rfl | rfl
  · unfold zinc at hc
    rw [show Nat.beq 0 0 = true from rfl, cond_true] at hc
    exact zbi_i (zble_t hc)
  · rcases zsy_n hy with q | ⟨q1, q2⟩ | q
    · omega
    · exact zbi_l q1 q2
    · omega
theorem zunknown {ρ : Nat → Int} {S : zS} (hs : zsat ρ S) {kd x : Nat} (hkd : kd ≤ 1) (hk : zkd x = kd) (hy : zsy x = true) (hc : zin kd (ziv S (zid x)) = true) : ((zbv ρ (zid x) : Nat) : Int) = zvI ρ kd x + 9223372036854775808 := by
  rcases (show kd = 0 ∨ kd = 1 by omega) with rfl | rfl
  · exact zsym_i hs hy hk hc
  · exact zsym_l hs hy hk
theorem zway_iff {P : zO → Prop} {ρ : Nat → Int} {g g2 : Prop} {kT kF : zS → List zO} (h : zway P ρ g kT kF) (e : g ↔ g2) : zway P ρ g2 kT kF := by
  rcases h with ⟨h1, h2⟩ | ⟨h1, h2⟩
  · exact Or.inl ⟨e.mp h1, h2⟩
  · exact Or.inr ⟨fun q => h1 (e.mpr q), h2⟩
theorem zcp_up (c : Nat) {a b X Y K : Int} (ha : a = X + K) (hb : b = Y + K) : zcp c a b ↔ zcp c X Y := by
  subst ha; subst hb
  match c with
  | 0 => show X + K = Y + K ↔ X = Y; omega
  | 1 => show ¬ X + K = Y + K ↔ ¬ X = Y; omega
  | 2 => show X + K < Y + K ↔ X < Y; omega
  | 3 => show Y + K ≤ X + K ↔ Y ≤ X; omega
  | 4 => show Y + K < X + K ↔ Y < X; omega
  | n + 5 => show X + K ≤ Y + K ↔ X ≤ Y; omega
theorem zbr_ok {P : zO → Prop} (h0 : ∀ o, P o → o.1 = 1) {ρ : Nat → Int} {S : zS} {kd c x y : Nat} {kT kF kR : zS → List zO} (hs : zsat ρ S) (hkd : kd ≤ 1) (hc5 : c ≤ 5) (hkx : zkd x = kd) (hky : zkd y = kd) (h : zgood P (zbr S kd c x y kT kF kR)) :
    (∃ S1, zsat ρ S1 ∧ zgood P (kR S1)) ∨ zway P ρ (zcp c (zvI ρ kd x) (zvI ρ kd y)) kT kF := by
  unfold zbr at h
  rcases zgi h with ⟨sx, h⟩ | ⟨sx, h⟩
  · rcases zgi h with ⟨sy, h⟩ | ⟨sy, h⟩
    · rcases zgi h with ⟨q, h9⟩ | ⟨q, h9⟩
      · right
        rw [← zbeq_t q]
        exact zway_of hs ((zci_nat c 0 0).trans (zcp_eq c _).symm) h9
      · exact Or.inl (zsp_in h0 h9 hs)
    · obtain ⟨q, h⟩ := zgc h0 h
      rw [frc_eq] at h
      obtain ⟨q2, h⟩ := zbr2_ok h0 hs h
      exact Or.inr (zway_iff h (zcp_up c (zunknown hs hkd hkx sx q2) (zknown hkd hky sy q)))
  · rcases zgi h with ⟨sy, h⟩ | ⟨sy, h⟩
    · obtain ⟨q, h⟩ := zgc h0 h
      rw [frc_eq] at h
      obtain ⟨q2, h⟩ := zbr2_ok h0 hs h
      exact Or.inr (zway_iff h ((zcp_up (zsw c) (zunknown hs hkd hky sy q2) (zknown hkd hkx sx q)).trans (zcp_sw c hc5 _ _)))
    · obtain ⟨q, h⟩ := zgc h0 h
      obtain ⟨q2, h⟩ := zgc h0 h
      right
      have e := zci_iff c (zknown (ρ := ρ) hkd hkx sx q) (zknown (ρ := ρ) hkd hky sy q2)
      rcases zgi h with ⟨b, h⟩ | ⟨b, h⟩
      · exact Or.inl ⟨e.mp b, S, hs, h⟩
      · exact Or.inr ⟨fun z => (by rw [e.mpr z] at b; cases b), S, hs, h⟩
