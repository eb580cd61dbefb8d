/-! Arrays read and written, against the machine -/
theorem zdv_100 : zdv 100 = 0 := rfl
theorem zdv_102 : zdv 102 = 0 := rfl
theorem zdv_101 : zdv 101 = 36893488147419103232 := rfl
theorem zdv_104 (ci : Nat) : zdv (104 + ci) = 92233720368547758080 := by
  unfold zdv
  have h : Nat.beq (104 + ci) 101 = false := by
    cases q : Nat.beq (104 + ci) 101 with
    | true => have := zbeq_t q; omega
    | false => rfl
  rw [h, cond_false, Nat.ble_eq_true_of_le (by omega), cond_true]
theorem zdv_lt (k : Nat) : zdv k < 4722366482869645213696 := by
  unfold zdv
  cases Nat.beq k 101 with
  | true => rw [cond_true]; decide
  | false =>
    rw [cond_false]
    cases Nat.ble 104 k with
    | true => rw [cond_true]; decide
    | false => rw [cond_false]; decide
theorem zxlt {a b : Nat} (ha : a < 4722366482869645213696) (hb : b < 4722366482869645213696) : Nat.xor a b < 4722366482869645213696 := Nat.xor_lt_two_pow (n := 72) ha hb
theorem zxx (v d : Nat) : Nat.xor (Nat.xor v d) d = v := by
  rw [zxor, zxor, Nat.xor_assoc, Nat.xor_self, Nat.xor_zero]
/-- an element, behind a store -/
theorem zae_set {c : zC} {i w : Nat} (hw : w < 4722366482869645213696) (j : Nat) : zae (c.1, c.2.1, bset c.2.2 i (Nat.xor w (zdv c.1))) j = if j = i then w else zae c j := by
  unfold zae
  show Nat.xor (bget (bset c.2.2 i (Nat.xor w (zdv c.1))) j) (zdv c.1) = _
  rw [bget_bset (zxlt hw (zdv_lt _))]
  by_cases e : j = i
  · rw [if_pos e, if_pos e, zxx]
  · rw [if_neg e, if_neg e]
theorem zset_i (cA : ClassId) (n j : Nat) (f : Nat → Int32) (x : Int32) : (vp_cell cA (n, .inl f)).setSlot j (.int x) = vp_cell cA (n, .inl (fun k => if k = j then x else f k)) := by
  rw [vp_cell_i, vp_cell_i, arrV_store]
  refine congrArg (arrV cA n) (funext fun q => ?_)
  unfold updV
  by_cases e : q = j
  · rw [if_pos e, if_pos e]
  · rw [if_neg e, if_neg e]
theorem zset_l (cA : ClassId) (n j : Nat) (f : Nat → Int64) (x : Int64) : (vp_cell cA (n, .inr (.inl f))).setSlot j (.long x) = vp_cell cA (n, .inr (.inl (fun k => if k = j then x else f k))) := by
  rw [vp_cell_l, vp_cell_l, arrV_store]
  refine congrArg (arrV cA n) (funext fun q => ?_)
  unfold updV
  by_cases e : q = j
  · rw [if_pos e, if_pos e]
  · rw [if_neg e, if_neg e]
theorem zset_q (cA : ClassId) (n j : Nat) (f : Nat → Option Nat) (x : Option Nat) : (vp_cell cA (n, .inr (.inr (.inr (.inr f))))).setSlot j (va_rf x) = vp_cell cA (n, .inr (.inr (.inr (.inr (fun k => if k = j then x else f k))))) := by
  rw [vp_cell_q, vp_cell_q, arrV_store]
  refine congrArg (arrV cA n) (funext fun q => ?_)
  unfold updV
  by_cases e : q = j
  · rw [if_pos e, if_pos e]
  · rw [if_neg e, if_neg e]
theorem zka_or {a k : Nat} (h : zka a k = true) : (a = 104 ∧ 104 ≤ k) ∨ (a ≠ 104 ∧ k = a) := by
  unfold zka at h
  cases q : Nat.beq a 104 with
  | true => rw [q, cond_true] at h; exact Or.inl ⟨zbeq_t q, zble_t h⟩
  | false => rw [q, cond_false] at h; exact Or.inr ⟨zbeq_f q, zbeq_t h⟩
section ZARR
variable {p : Program} {l : Launch} {e : Env} {R : Room} {s : State} {m : MethodId} {args : Array Value} {below : List Frame} {meth : Method} {c : Code} {Q : State → Prop}
variable {cc : ByteArray} {nL : Nat} {D : va_G} {ρ : Nat → Int} {b0 B0 mc ms : Nat} {P : zO → Prop}
def zd_ald (cc : ByteArray) (pc a nx : Nat) : Prop := nx = pc + 1 ∧ ((a = 100 ∧ decode cc pc = .ok (.iaload, 1)) ∨ (a = 101 ∧ decode cc pc = .ok (.laload, 1)) ∨ (a = 102 ∧ decode cc pc = .ok (.baload, 1)) ∨ (a = 104 ∧ decode cc pc = .ok (.aaload, 1)))
theorem zo_ald (hx : p.tables.exec = Jvm.exec) (hb : c.code = cc) (h0 : ∀ o, P o → o.1 = 1) {ih : zK} (hih : zIh p l e R s m args below meth c Q nL D ρ b0 B0 mc ms P ih) {pc L a b nx : Nat} {st : List Nat} {M : zM}
    (hd : zd_ald cc pc a nx) (hg : zgood P (z_ald ih pc L st M a b nx)) : zWk p l e R s m args below meth c Q nL D ρ b0 B0 mc ms P pc L st M := by
  intro H locs cells slots ls hI hl
  unfold z_ald at hg
  obtain ⟨i, r1, hst, hg1⟩ := zgl h0 hg
  subst hst
  clear hg
  obtain ⟨r, rest, hst, hg2⟩ := zgl h0 hg1
  subst hst
  clear hg1
  unfold z_ald2 at hg2
  obtain ⟨ki, hg2⟩ := zgc h0 hg2
  have ki := zbeq_t ki
  obtain ⟨q, er, hg, -, -, -⟩ := zrf_ok (ρ := ρ) (b0 := b0) (B0 := B0) h0 hg2
  rw [frc_eq] at hg
  obtain ⟨ri, -⟩ := zrs_i hI.1 ki
  unfold z_ald1 at hg
  obtain ⟨hka, hg⟩ := zgc h0 hg
  rcases zgi hg with ⟨g1, hg⟩ | ⟨-, hg⟩
  · have g1 := zble_t g1
    obtain ⟨g2, hg⟩ := zgc h0 hg
    have g2 := zble_t g2
    rw [frc_eq] at hg
    obtain ⟨rfl, hd⟩ := hd
    have kk := hih _ L _ M hg H locs cells slots ls hI hl
    rw [List.map_cons] at kk
    rw [List.map_cons, List.map_cons, er, zv_i ki, ← ri, zvi_lo g1]
    have kk : W p l e R s m args below meth c H locs cells slots Q (F0 m (pc + 1) ls (zv ρ (zα b0 B0) (zae (hget M.2.1 q) (zrs M.1 i)) :: rest.map (zv ρ (zα b0 B0)))) := kk
    generalize zrs M.1 i = i1 at g1 g2 kk ⊢
    obtain ⟨ws, tys, hA⟩ := id hI.2.1
    have h60 := hA.2.2.2.2.2.2.2.2.2.2 q
    have hlt : i1 < (hget M.2.1 q).2.1 := g2
    have hin : vp_in (Int32.ofNat i1) (hget M.2.1 q).2.1 := vp_in_nI hlt (by omega)
    have hcl : (Int32.ofNat i1).toNatClampNeg = i1 := nI_clamp (by omega)
    rcases zka_or hka with ⟨rfl, hk⟩ | ⟨hk1, hk2⟩
    · rcases hd with ⟨hd, -⟩ | ⟨hd, -⟩ | ⟨hd, -⟩ | ⟨-, hd⟩
      · omega
      · omega
      · omega
      have hq0 : q ≠ 0 := by
        rintro rfl
        have := hA.2.2.2.2.2.2.1.1
        omega
      obtain ⟨ez, w1, w2⟩ := zAt_cell hA hq0 (by omega)
      rcases w2 with ⟨_, _, _, w3, -⟩ | ⟨_, _, _, w3, -⟩ | ⟨_, _, _, w3, -⟩ | ⟨_, _, _, w3, -⟩ | ⟨_, _, _, w3, -⟩ | ⟨cA, t0, ci, r0, f, w3, w4, w5, w6, w7⟩
      · omega
      · omega
      · omega
      · omega
      · omega
      rw [w4] at w1
      refine va_aldq hx hb hA.1 hA.2.1 _ t0 w1 w6 hin hd ?_
      rw [hcl, w7 i1 hlt]
      exact kk
    · rcases hd with ⟨rfl, hd⟩ | ⟨rfl, hd⟩ | ⟨rfl, hd⟩ | ⟨rfl, -⟩
      · by_cases hq0 : q = 0
        · subst hq0
          obtain ⟨-, -, f, ⟨scr, s1, s2, s3, s4, s5⟩, s6⟩ := hA.2.2.2.2.2.2.1
          refine W.iald (v := .int (f i1)) hx hb (show H[zα b0 B0 0]? = some scr from s1) s2 s3 (by rw [s4]; exact hin) (by rw [hcl]; exact s5 i1 hlt) rfl rfl hd ?_
          rw [s6 i1 hlt]
          exact kk
        · obtain ⟨ez, w1, w2⟩ := zAt_cell hA hq0 (by omega)
          rcases w2 with ⟨_, _, _, w3, -⟩ | ⟨cA, t0, f, w3, w4, w5, w6⟩ | ⟨_, _, _, w3, -⟩ | ⟨_, _, _, w3, -⟩ | ⟨_, _, _, w3, -⟩ | ⟨_, _, _, _, _, w3, -⟩
          · omega
          · rw [w4] at w1
            refine va_iald hx hb hA.1 hA.2.1 _ t0 w1 w5 hin hd ?_
            rw [hcl, w6 i1 hlt]
            exact kk
          · omega
          · omega
          · omega
          · omega
      · have hq0 : q ≠ 0 := by
          rintro rfl
          have := hA.2.2.2.2.2.2.1.1
          omega
        obtain ⟨ez, w1, w2⟩ := zAt_cell hA hq0 (by omega)
        rcases w2 with ⟨_, _, _, w3, -⟩ | ⟨_, _, _, w3, -⟩ | ⟨cA, t0, f, w3, w4, w5, w6⟩ | ⟨_, _, _, w3, -⟩ | ⟨_, _, _, w3, -⟩ | ⟨_, _, _, _, _, w3, -⟩
        · omega
        · omega
        · rw [w4] at w1
          refine va_lald hx hb hA.1 hA.2.1 _ t0 w1 w5 hin hd ?_
          rw [hcl, w6 i1 hlt]
          exact kk
        · omega
        · omega
        · omega
      · have hq0 : q ≠ 0 := by
          rintro rfl
          have := hA.2.2.2.2.2.2.1.1
          omega
        obtain ⟨ez, w1, w2⟩ := zAt_cell hA hq0 (by omega)
        rcases w2 with ⟨_, _, _, w3, -⟩ | ⟨_, _, _, w3, -⟩ | ⟨_, _, _, w3, -⟩ | ⟨cA, t0, f, w3, w4, w5, w6⟩ | ⟨_, _, _, w3, -⟩ | ⟨_, _, _, _, _, w3, -⟩
        · omega
        · omega
        · omega
        · rw [w4] at w1
          refine va_bald hx hb hA.1 hA.2.1 _ t0 w1 w5 hin hd ?_
          rw [hcl, w6 i1 hlt]
          exact kk
        · omega
        · omega
      · exact absurd rfl hk1
  · obtain ⟨sy, hg⟩ := zgc h0 hg
    obtain ⟨S1, hs1, hg⟩ := zsp_in h0 hg hI.1
    exact hih pc L _ _ hg H locs cells slots ls (hI.S hs1) hl
def zd_ast (cc : ByteArray) (pc a nx : Nat) : Prop := nx = pc + 1 ∧ ((a = 100 ∧ decode cc pc = .ok (.iastore, 1)) ∨ (a = 101 ∧ decode cc pc = .ok (.lastore, 1)) ∨ (a = 102 ∧ decode cc pc = .ok (.bastore, 1)) ∨ (a = 104 ∧ decode cc pc = .ok (.aastore, 1)))
theorem zα_le {q : Nat} (h : q ≠ 0) : B0 ≤ zα b0 B0 q := by
  unfold zα
  rw [if_neg h]
  omega
theorem zfib_ok {S : zS} (hs : zsat ρ S) {v : Nat} (h : zfib S v = true) : zkd v = 0 ∧ (zvi ρ v).toInt8.toInt32 = zvi ρ v := by
  unfold zfib at h
  cases g1 : Nat.ble v 127 with
  | true =>
    have g1 := zble_t g1
    refine ⟨by rw [zkd_eq]; omega, ?_⟩
    rw [zvi_lo (by omega)]
    exact zi2b_a _ (by omega)
  | false =>
    rw [g1, cond_false] at h
    cases sy : zsy v with
    | false => rw [sy, cond_false] at h; cases h
    | true =>
      rw [sy, cond_true] at h
      cases k : Nat.beq (zkd v) 0 with
      | false => rw [k, cond_false] at h; cases h
      | true =>
        rw [k, cond_true] at h
        cases g2 : Nat.ble 9223372036854775680 (ziv S (zid v)).1 with
        | false => rw [g2, cond_false] at h; cases h
        | true =>
          rw [g2, cond_true] at h
          have g2 := zble_t g2
          have g3 := zble_t h
          have k := zbeq_t k
          refine ⟨k, ?_⟩
          rw [zkd_eq] at k
          rcases zsy_i sy with ⟨s1, s2, s3⟩ | ⟨s1, s2, s3⟩
          · obtain ⟨i1, i2, i3⟩ := zbv_iv hs (zid v)
            have i4 := zbv_eq hs (zid v)
            unfold zvi
            rw [if_neg (by omega), ← s3]
            exact zi2b_c (by omega) (by omega)
          · omega
theorem zo_ast (hx : p.tables.exec = Jvm.exec) (hb : c.code = cc) (h0 : ∀ o, P o → o.1 = 1) {ih : zK} (hih : zIh p l e R s m args below meth c Q nL D ρ b0 B0 mc ms P ih) {pc L a b nx : Nat} {st : List Nat} {M : zM}
    (hd : zd_ast cc pc a nx) (hg : zgood P (z_ast ih pc L st M a b nx)) : zWk p l e R s m args below meth c Q nL D ρ b0 B0 mc ms P pc L st M := by
  intro H locs cells slots ls hI hl
  unfold z_ast at hg
  obtain ⟨v, r2, hst, hg0⟩ := zgl h0 hg
  subst hst
  clear hg
  obtain ⟨i, r1, hst, hg1⟩ := zgl h0 hg0
  subst hst
  clear hg0
  obtain ⟨r, rest, hst, hg2⟩ := zgl h0 hg1
  subst hst
  clear hg1
  unfold z_ast2 at hg2
  obtain ⟨ki, hg2⟩ := zgc h0 hg2
  have ki := zbeq_t ki
  obtain ⟨q, er, hg, -, -, -⟩ := zrf_ok (ρ := ρ) (b0 := b0) (B0 := B0) h0 hg2
  rw [frc_eq] at hg
  obtain ⟨ri, -⟩ := zrs_i hI.1 ki
  unfold z_ast1 at hg
  obtain ⟨hka, hg⟩ := zgc h0 hg
  rcases zgi hg with ⟨g1, hg⟩ | ⟨-, hg⟩
  · have g1 := zble_t g1
    obtain ⟨g2, hg⟩ := zgc h0 hg
    have g2 := zble_t g2
    obtain ⟨hf, hg⟩ := zgc h0 hg
    obtain ⟨hq0, hg⟩ := zgcn h0 hg
    have hq0 := zbeq_f hq0
    rw [frc_eq, hset_eq] at hg
    obtain ⟨rfl, hd⟩ := hd
    rw [List.map_cons, List.map_cons, List.map_cons, er, zv_i ki, ← ri, zvi_lo g1]
    generalize zrs M.1 i = i1 at g1 g2 hg ⊢
    obtain ⟨ws, tys, hA⟩ := id hI.2.1
    have h60 := hA.2.2.2.2.2.2.2.2.2.2 q
    have hlt : i1 < (hget M.2.1 q).2.1 := g2
    have hin : vp_in (Int32.ofNat i1) (hget M.2.1 q).2.1 := vp_in_nI hlt (by omega)
    have hcl : (Int32.ofNat i1).toNatClampNeg = i1 := nI_clamp (by omega)
    have fin : ∀ (e1 e0 : va_E) (H' : Heap) (locs1 : List Loc), ws[q - 1]? = some (zα b0 B0 q, e0) → va_at D vwCl (zα b0 B0 q, e1) H' → H'.size = H.size → (∀ x : Nat, x ≠ zα b0 B0 q → H'[x]? = H[x]?) → zCl ρ (zα b0 B0) tys ((hget M.2.1 q).1, (hget M.2.1 q).2.1, bset (hget M.2.1 q).2.2 i1 (Nat.xor v (zdv (hget M.2.1 q).1))) e1 →
        va_S (fun q => B0 ≤ q) s.heap H' locs1 → W p l e R s m args below meth c H' locs1 cells slots Q (F0 m (pc + 1) ls (rest.map (zv ρ (zα b0 B0)))) := by
      intro e1 e0 H' locs1 z0 z1 z2 z3 z4 z5
      exact hih _ L rest _ hg H' locs1 cells slots ls ⟨hI.1, zHR_set hA hq0 z0 z1 z2 z3 z4 h60, z5, hI.2.2.2⟩ hl
    obtain ⟨ez, w1, w2⟩ := zAt_cell hA hq0 (by rcases zka_or hka with ⟨g, g'⟩ | ⟨g, g'⟩ <;> rcases hd with ⟨d, -⟩ | ⟨d, -⟩ | ⟨d, -⟩ | ⟨d, -⟩ <;> omega)
    have vpn : ∀ (cA : ClassId) (z : vp_A), (vp_cell cA z).vm ≠ .unknown := by
      intro cA z
      obtain ⟨n, f | f | f | f | f⟩ := z <;> exact fun q => by cases q
    rcases zka_or hka with ⟨rfl, hk⟩ | ⟨hk1, hk2⟩
    · rcases hd with ⟨hd, -⟩ | ⟨hd, -⟩ | ⟨hd, -⟩ | ⟨-, hd⟩
      · omega
      · omega
      · omega
      rcases w2 with ⟨_, _, _, w3, -⟩ | ⟨_, _, _, w3, -⟩ | ⟨_, _, _, w3, -⟩ | ⟨_, _, _, w3, -⟩ | ⟨_, _, _, w3, -⟩ | ⟨cA, t0, ci, r0, f, w3, w4, w5, w6, w7⟩
      · omega
      · omega
      · omega
      · omega
      · omega
      have hv : v = 92233720368547758080 := by
        unfold zfia at hf
        have n1 : Nat.beq (hget M.2.1 q).1 100 = false := by cases z : Nat.beq (hget M.2.1 q).1 100 with | true => have := zbeq_t z; omega | false => rfl
        have n2 : Nat.beq (hget M.2.1 q).1 101 = false := by cases z : Nat.beq (hget M.2.1 q).1 101 with | true => have := zbeq_t z; omega | false => rfl
        have n3 : Nat.beq (hget M.2.1 q).1 102 = false := by cases z : Nat.beq (hget M.2.1 q).1 102 with | true => have := zbeq_t z; omega | false => rfl
        rw [n1, n2, n3, Nat.ble_eq_true_of_le hk, cond_false, cond_false, cond_false, cond_true] at hf
        exact zbeq_t hf
      rw [w4] at w1
      rw [zv_null (by omega)]
      refine va_WaastN (C := r0.1) hx hb (hA.2.1 _ _ w1) ((hA.1.2 t0 _ w6).1 _ (fun j => va_rf (f j))) (vpn _ _) (by show ¬ (_ ∨ (arrV _ _ _).slots.size ≤ _); rw [arrV_size]; exact hin) rfl rfl hd fun H' z1 z2 z3 => ?_
      refine fin (.inl (cA, (hget M.2.1 q).2.1, .inr (.inr (.inr (.inr (fun k => if k = i1 then none else f k)))))) _ H' _ w1 ?_ z2 z3 ?_ (hI.2.2.1.put z2 z3 (zα_le hq0))
      · show H'[_]? = some (vp_cell _ _)
        rw [z1, hcl]
        exact congrArg some (zset_q cA _ i1 f none)
      · refine Or.inr (Or.inr (Or.inr (Or.inr (Or.inr ⟨cA, t0, ci, r0, _, w3, rfl, w5, w6, fun j hj => ?_⟩))))
        rw [zae_set (by omega)]
        by_cases ej : j = i1
        · rw [if_pos ej, if_pos ej, zv_null (by omega)]
          rfl
        · rw [if_neg ej, if_neg ej]
          exact w7 j hj
    · rcases hd with ⟨rfl, hd⟩ | ⟨rfl, hd⟩ | ⟨rfl, hd⟩ | ⟨rfl, -⟩
      · have kv : zkd v = 0 := by
          rw [hk2] at hf
          exact zbeq_t (show Nat.beq (zkd v) 0 = true from hf)
        rcases w2 with ⟨_, _, _, w3, -⟩ | ⟨cA, t0, f, w3, w4, w5, w6⟩ | ⟨_, _, _, w3, -⟩ | ⟨_, _, _, w3, -⟩ | ⟨_, _, _, w3, -⟩ | ⟨_, _, _, _, _, w3, -⟩
        · omega
        · rw [w4] at w1
          rw [zv_i kv]
          refine W.iast hx hb (hA.2.1 _ _ w1) ((hA.1.2 t0 _ w5).1 _ (fun j => .int (f j))) (vpn _ _) (by show ¬ (_ ∨ (arrV _ _ _).slots.size ≤ _); rw [arrV_size]; exact hin) rfl rfl hd fun H' z1 z2 z3 => ?_
          refine fin (.inl (cA, (hget M.2.1 q).2.1, .inl (fun k => if k = i1 then zvi ρ v else f k))) _ H' _ w1 ?_ z2 z3 ?_ (hI.2.2.1.put z2 z3 (zα_le hq0))
          · show H'[_]? = some (vp_cell _ _)
            rw [z1, hcl]
            exact congrArg some (zset_i cA _ i1 f _)
          · refine Or.inr (Or.inl ⟨cA, t0, _, w3, rfl, w5, fun j hj => ?_⟩)
            rw [zkd_eq] at kv
            rw [zae_set (by omega)]
            by_cases ej : j = i1
            · rw [if_pos ej, if_pos ej, zv_i (by rw [zkd_eq]; exact kv)]
            · rw [if_neg ej, if_neg ej]
              exact w6 j hj
        · omega
        · omega
        · omega
        · omega
      · have kv : zkd v = 1 := by
          rw [hk2] at hf
          exact zbeq_t (show Nat.beq (zkd v) 1 = true from hf)
        rcases w2 with ⟨_, _, _, w3, -⟩ | ⟨_, _, _, w3, -⟩ | ⟨cA, t0, f, w3, w4, w5, w6⟩ | ⟨_, _, _, w3, -⟩ | ⟨_, _, _, w3, -⟩ | ⟨_, _, _, _, _, w3, -⟩
        · omega
        · omega
        · rw [w4] at w1
          rw [zv_l kv]
          refine W.last hx hb (hA.2.1 _ _ w1) ((hA.1.2 t0 _ w5).1 _ (fun j => .long (f j))) (vpn _ _) (by show ¬ (_ ∨ (arrV _ _ _).slots.size ≤ _); rw [arrV_size]; exact hin) rfl rfl hd fun H' z1 z2 z3 => ?_
          refine fin (.inl (cA, (hget M.2.1 q).2.1, .inr (.inl (fun k => if k = i1 then zvl ρ v else f k)))) _ H' _ w1 ?_ z2 z3 ?_ (hI.2.2.1.put z2 z3 (zα_le hq0))
          · show H'[_]? = some (vp_cell _ _)
            rw [z1, hcl]
            exact congrArg some (zset_l cA _ i1 f _)
          · refine Or.inr (Or.inr (Or.inl ⟨cA, t0, _, w3, rfl, w5, fun j hj => ?_⟩))
            rw [zkd_eq] at kv
            rw [zae_set (by omega)]
            by_cases ej : j = i1
            · rw [if_pos ej, if_pos ej, zv_l (by rw [zkd_eq]; exact kv)]
            · rw [if_neg ej, if_neg ej]
              exact w6 j hj
        · omega
        · omega
        · omega
      · have kv := zfib_ok hI.1 (v := v) (by rw [hk2] at hf; exact hf)
        obtain ⟨kv, kb⟩ := kv
        rcases w2 with ⟨_, _, _, w3, -⟩ | ⟨_, _, _, w3, -⟩ | ⟨_, _, _, w3, -⟩ | ⟨cA, t0, f, w3, w4, w5, w6⟩ | ⟨_, _, _, w3, -⟩ | ⟨_, _, _, _, _, w3, -⟩
        · omega
        · omega
        · omega
        · rw [w4] at w1
          rw [zv_i kv]
          refine W.bast hx hb (hA.2.1 _ _ w1) ((hA.1.2 t0 _ w5).1 _ (fun j => .int (f j))) (vpn _ _) (by show ¬ (_ ∨ (arrV _ _ _).slots.size ≤ _); rw [arrV_size]; exact hin) rfl rfl hd fun H' z1 z2 z3 => ?_
          refine fin (.inl (cA, (hget M.2.1 q).2.1, .inl (fun k => if k = i1 then zvi ρ v else f k))) _ H' _ w1 ?_ z2 z3 ?_ (hI.2.2.1.put z2 z3 (zα_le hq0))
          · show H'[_]? = some (vp_cell _ _)
            rw [z1, hcl, narrow_byte, kb]
            exact congrArg some (zset_i cA _ i1 f _)
          · refine Or.inr (Or.inr (Or.inr (Or.inl ⟨cA, t0, _, w3, rfl, w5, fun j hj => ?_⟩)))
            rw [zkd_eq] at kv
            rw [zae_set (by omega)]
            by_cases ej : j = i1
            · rw [if_pos ej, if_pos ej, zv_i (by rw [zkd_eq]; exact kv)]
            · rw [if_neg ej, if_neg ej]
              exact w6 j hj
        · omega
        · omega
      · exact absurd rfl hk1
  · obtain ⟨sy, hg⟩ := zgc h0 hg
    obtain ⟨S1, hs1, hg⟩ := zsp_in h0 hg hI.1
    exact hih pc L _ _ hg H locs cells slots ls (hI.S hs1) hl
def zd_alen (cc : ByteArray) (pc nx : Nat) : Prop := nx = pc + 1 ∧ decode cc pc = .ok (.arraylength, 1)
theorem zo_alen (hx : p.tables.exec = Jvm.exec) (hb : c.code = cc) (h0 : ∀ o, P o → o.1 = 1) {ih : zK} (hih : zIh p l e R s m args below meth c Q nL D ρ b0 B0 mc ms P ih) {pc L a b nx : Nat} {st : List Nat} {M : zM}
    (hd : zd_alen cc pc nx) (hg : zgood P (z_alen ih pc L st M a b nx)) : zWk p l e R s m args below meth c Q nL D ρ b0 B0 mc ms P pc L st M := by
  intro H locs cells slots ls hI hl
  unfold z_alen at hg
  obtain ⟨r, rest, hst, hg1⟩ := zgl h0 hg
  subst hst
  clear hg
  obtain ⟨q, er, hg, -, -, -⟩ := zrf_ok (ρ := ρ) (b0 := b0) (B0 := B0) h0 hg1
  unfold z_alen1 at hg
  obtain ⟨k1, hg⟩ := zgc h0 hg
  have k1 := zble_t k1
  rw [frc_eq] at hg
  obtain ⟨rfl, hd⟩ := hd
  obtain ⟨ws, tys, hA⟩ := id hI.2.1
  have h60 := hA.2.2.2.2.2.2.2.2.2.2 q
  have kk := hih _ L _ M hg H locs cells slots ls hI hl
  rw [List.map_cons, zv_lo (by omega)] at kk
  rw [List.map_cons, er]
  by_cases hq0 : q = 0
  · subst hq0
    obtain ⟨-, -, f, ⟨scr, s1, s2, s3, s4, s5⟩, s6⟩ := hA.2.2.2.2.2.2.1
    exact W.alen (n := Int32.ofNat (hget M.2.1 0).2.1) hx hb (show H[zα b0 B0 0]? = some scr from s1) s2 (by rw [s4] <;> rfl) rfl rfl hd kk
  · obtain ⟨ez, w1, w2⟩ := zAt_cell hA hq0 (by omega)
    rcases w2 with ⟨_, _, _, w3, -⟩ | ⟨cA, t0, f, w3, w4, w5, -⟩ | ⟨cA, t0, f, w3, w4, w5, -⟩ | ⟨cA, t0, f, w3, w4, w5, -⟩ | ⟨cA, t0, f, w3, w4, w5⟩ | ⟨cA, t0, ci, r0, f, w3, w4, w5, w6, -⟩
    · omega
    · rw [w4] at w1; exact va_alen hx hb hA.1 hA.2.1 _ t0 w1 w5 rfl hd kk
    · rw [w4] at w1; exact va_alen hx hb hA.1 hA.2.1 _ t0 w1 w5 rfl hd kk
    · rw [w4] at w1; exact va_alen hx hb hA.1 hA.2.1 _ t0 w1 w5 rfl hd kk
    · rw [w4] at w1; exact va_alen hx hb hA.1 hA.2.1 _ t0 w1 w5 rfl hd kk
    · rw [w4] at w1; exact va_alen hx hb hA.1 hA.2.1 _ t0 w1 w6 rfl hd kk
end ZARR
