/-! New cells, Object's constructor, the copy of an array, against the machine -/
/-- words that don't stay among the good ones: links between nest mates, arrays of references -/
def zZ (zn : List Cond) (U : State) : Prop := (∀ w ∈ zn, va_Nw w U) ∧ va_AO RX8 U ∧ va_AO RX3 U
theorem bget_0 (j : Nat) : bget 0 j = 0 := by
  apply Nat.eq_of_testBit_eq
  intro b
  rw [bget_bit, Nat.zero_testBit]
  simp
section ZNEW
variable {p : Program} {l : Launch} {e : Env} {R : Room} {s : State} {m : MethodId} {args : Array Value} {below : List Frame} {meth : Method} {c : Code} {Q : State → Prop}
variable {cc : ByteArray} {nL : Nat} {D : va_G} {ρ : Nat → Int} {b0 B0 mc ms : Nat} {P : zO → Prop}
/-- a new cell, made -/
theorem zmk_ok (h0 : ∀ o, P o → o.1 = 1) {ih : zK} {L nx n : Nat} {rest : List Nat} {M : zM} {cn : zC} (hg : zgood P (zmk ih L rest M nx n cn)) :
    1 ≤ M.2.2.2.1 ∧ n ≤ M.2.2.2.2 ∧ M.2.2.1 ≤ 126 ∧ zgood P (ih nx L ((73786976294838206464 + M.2.2.1) :: rest) (M.1, hs2 M.2.1 M.2.2.1 cn, M.2.2.1 + 1, M.2.2.2.1 - 1, M.2.2.2.2 - n)) := by
  unfold zmk at hg
  obtain ⟨g1, hg⟩ := zgc h0 hg
  obtain ⟨g2, hg⟩ := zgc h0 hg
  obtain ⟨g3, hg⟩ := zgc h0 hg
  rw [frc_eq, frc_eq, frc_eq, frc_eq, hset_eq, zadd, zsuc, zsub, zsub] at hg
  exact ⟨zble_t g1, zble_t g2, zble_t g3, hg⟩
theorem zI_new {M : zM} {H H1 : Heap} {locs : List Loc} {cells slots n : Nat} (hI : zI D ρ b0 B0 mc ms s M H locs cells slots) {ws : va_W} {tys tys1 : List (ClassId × FieldType)} (hA : zAt D ρ b0 B0 s H M.2.1 M.2.2.1 ws tys) {e1 : va_E} {cn : zC} (hK : va_K D vwCl tys1 s) (ht : ∀ (k : Nat) (x : ClassId × FieldType), tys[k]? = some x → tys1[k]? = some x)
    (g1 : 1 ≤ M.2.2.2.1) (g2 : n ≤ M.2.2.2.2) (g3 : M.2.2.1 ≤ 126) (he : va_at D vwCl (H.size, e1) H1) (hz : H1.size = H.size + 1) (oq : ∀ x : Nat, x < H.size → H1[x]? = H[x]?) (hc : zCl ρ (zα b0 B0) tys1 cn e1) (hs : cn.2.1 ≤ 60000) :
    zI D ρ b0 B0 mc ms s (M.1, hs2 M.2.1 M.2.2.1 cn, M.2.2.1 + 1, M.2.2.2.1 - 1, M.2.2.2.2 - n) H1 locs (cells + 1) (slots + n) ∧ zv ρ (zα b0 B0) (73786976294838206464 + M.2.2.1) = .ref H.size := by
  obtain ⟨q1, q2⟩ := zHR_new hA hK ht g3 he hz oq hc hs
  obtain ⟨i1, i2, i3, i4, i5⟩ := hI
  refine ⟨⟨i1, q1, ⟨by rw [hz]; exact Nat.le_succ_of_le i3.1, fun x h1 h2 => (oq x (Nat.lt_of_lt_of_le h1 i3.1)).trans (i3.2.1 x h1 h2), i3.2.2⟩, by show cells + 1 + (M.2.2.2.1 - 1) = mc; omega, by show slots + n + (M.2.2.2.2 - n) = ms; omega⟩, ?_⟩
  rw [zv_ref (by omega) (by omega), Nat.add_sub_cancel_left, q2]
def zd_newa (cc : ByteArray) (pc a nx : Nat) : Prop := nx = pc + 2 ∧ ((a = 100 ∧ decode cc pc = .ok (.newarray .int, 2) ∧ Cond.arrayClass .int ∈ zGW) ∨ (a = 101 ∧ decode cc pc = .ok (.newarray .long, 2) ∧ Cond.arrayClass .long ∈ zGW) ∨
  (a = 102 ∧ decode cc pc = .ok (.newarray .byte, 2) ∧ Cond.arrayClass .byte ∈ zGW) ∨ (a = 103 ∧ decode cc pc = .ok (.newarray .boolean, 2) ∧ Cond.arrayClass .boolean ∈ zGW))
theorem zK_app {tys : List (ClassId × FieldType)} {cA : ClassId} {ty : FieldType} (hK : va_K D vwCl tys s) (h1 : ArrOfT s cA ty) (h2 : va_RA s cA ty) : va_K D vwCl (tys ++ [(cA, ty)]) s := by
  refine hK.app ⟨hK.1, fun k x hx => ?_⟩
  have hz : k < 1 := (List.getElem?_eq_some_iff.mp hx).1
  rw [show k = 0 by omega] at hx
  cases hx
  exact ⟨h1, h2⟩
theorem zty_app {tys : List (ClassId × FieldType)} {y : ClassId × FieldType} : ∀ (k : Nat) (x : ClassId × FieldType), tys[k]? = some x → (tys ++ [y])[k]? = some x := by
  intro k x h
  rw [List.getElem?_append_left (List.getElem?_eq_some_iff.mp h).1]
  exact h
theorem zty_last {tys : List (ClassId × FieldType)} {y : ClassId × FieldType} : (tys ++ [y])[tys.length]? = some y := by
  rw [List.getElem?_append_right (Nat.le_refl _), Nat.sub_self]
  rfl
theorem zo_newa (hx : p.tables.exec = Jvm.exec) (hb : c.code = cc) (h0 : ∀ o, P o → o.1 = 1) (hw : ∀ w ∈ zGW, w.before args s = true) (hR : mc ≤ R.cells ∧ ms ≤ R.slots) {ih : zK} (hih : zIh p l e R s m args below meth c Q nL D ρ b0 B0 mc ms P ih) {pc L a b nx : Nat} {st : List Nat} {M : zM}
    (hd : zd_newa cc pc a nx) (hg : zgood P (z_newa ih pc L st M a b nx)) : zWk p l e R s m args below meth c Q nL D ρ b0 B0 mc ms P pc L st M := by
  intro H locs cells slots ls hI hl
  unfold z_newa at hg
  obtain ⟨n0, rest, hst, hg1⟩ := zgl h0 hg
  subst hst
  clear hg
  rw [frc_eq] at hg1
  obtain ⟨gn, hg⟩ := zgc h0 hg1
  have gn := zble_t gn
  obtain ⟨r1, r2⟩ := zrs_ok (α := zα b0 B0) hI.1 n0
  rw [List.map_cons, ← r1]
  generalize zrs M.1 n0 = n at gn hg ⊢
  rw [zv_lo (by omega)]
  obtain ⟨g1, g2, g3, hg⟩ := zmk_ok h0 hg
  obtain ⟨ws, tys, hA⟩ := id hI.2.1
  obtain ⟨i1, i2, i3, i4, i5⟩ := id hI
  have hn : ¬ Int32.ofNat n < 0 := nI_pos (by omega)
  have hcl : (Int32.ofNat n).toNatClampNeg = n := nI_clamp (by omega)
  obtain ⟨rfl, hd⟩ := hd
  rcases hd with ⟨rfl, hd, hwA⟩ | ⟨rfl, hd, hwA⟩ | ⟨rfl, hd, hwA⟩ | ⟨rfl, hd, hwA⟩
  · refine va_newaK hx hb (atype := .int) (hw _ hwA) rfl hd rfl hn hcl (by show n * 4 ≤ _; omega) (by omega) (by omega) rfl fun H1 cA z1 z2 z3 z4 z5 => ?_
    have hzc : zCl ρ (zα b0 B0) (tys ++ [(cA, .int)]) (100, n, 0) (.inl (cA, n, .inl (fun _ => 0))) := by
      refine Or.inr (Or.inl ⟨cA, _, _, rfl, rfl, zty_last, fun j hj => ?_⟩)
      have e0 : Nat.xor 0 (zdv 100) = 0 := by decide
      show _ = zv ρ (zα b0 B0) (Nat.xor (bget 0 j) (zdv 100))
      rw [bget_0, e0, zv_lo (by decide)]
      rfl
    obtain ⟨j1, j2⟩ := zI_new (cn := (100, n, 0)) hI hA (zK_app hA.1 z4 z5) zty_app g1 g2 g3 (e1 := .inl (cA, n, .inl (fun _ => 0))) z1 z2 z3 hzc gn
    have kk := hih _ L _ _ hg H1 locs _ _ ls j1 hl
    rw [List.map_cons, j2] at kk
    exact kk
  · refine va_newaK hx hb (atype := .long) (hw _ hwA) rfl hd rfl hn hcl (by show n * 8 ≤ _; omega) (by omega) (by omega) rfl fun H1 cA z1 z2 z3 z4 z5 => ?_
    have hzc : zCl ρ (zα b0 B0) (tys ++ [(cA, .long)]) (101, n, 0) (.inl (cA, n, .inr (.inl (fun _ => 0)))) := by
      refine Or.inr (Or.inr (Or.inl ⟨cA, _, _, rfl, rfl, zty_last, fun j hj => ?_⟩))
      have e0 : Nat.xor 0 (zdv 101) = 36893488147419103232 + 0 := by decide
      show _ = zv ρ (zα b0 B0) (Nat.xor (bget 0 j) (zdv 101))
      rw [bget_0, e0, zv_ll (by decide)]
      rfl
    obtain ⟨j1, j2⟩ := zI_new (cn := (101, n, 0)) hI hA (zK_app hA.1 z4 z5) zty_app g1 g2 g3 (e1 := .inl (cA, n, .inr (.inl (fun _ => 0)))) z1 z2 z3 hzc gn
    have kk := hih _ L _ _ hg H1 locs _ _ ls j1 hl
    rw [List.map_cons, j2] at kk
    exact kk
  · refine va_newaK hx hb (atype := .byte) (hw _ hwA) rfl hd rfl hn hcl (by show n * 1 ≤ _; omega) (by omega) (by omega) rfl fun H1 cA z1 z2 z3 z4 z5 => ?_
    have hzc : zCl ρ (zα b0 B0) (tys ++ [(cA, .byte)]) (102, n, 0) (.inl (cA, n, .inl (fun _ => 0))) := by
      refine Or.inr (Or.inr (Or.inr (Or.inl ⟨cA, _, _, rfl, rfl, zty_last, fun j hj => ?_⟩)))
      have e0 : Nat.xor 0 (zdv 102) = 0 := by decide
      show _ = zv ρ (zα b0 B0) (Nat.xor (bget 0 j) (zdv 102))
      rw [bget_0, e0, zv_lo (by decide)]
      rfl
    obtain ⟨j1, j2⟩ := zI_new (cn := (102, n, 0)) hI hA (zK_app hA.1 z4 z5) zty_app g1 g2 g3 (e1 := .inl (cA, n, .inl (fun _ => 0))) z1 z2 z3 hzc gn
    have kk := hih _ L _ _ hg H1 locs _ _ ls j1 hl
    rw [List.map_cons, j2] at kk
    exact kk
  · refine va_newaK hx hb (atype := .boolean) (hw _ hwA) rfl hd rfl hn hcl (by show n * 1 ≤ _; omega) (by omega) (by omega) rfl fun H1 cA z1 z2 z3 z4 z5 => ?_
    obtain ⟨j1, j2⟩ := zI_new (cn := (103, n, 0)) hI hA (zK_app hA.1 z4 z5) zty_app g1 g2 g3 (e1 := .inl (cA, n, .inl (fun _ => 0))) z1 z2 z3 (Or.inr (Or.inr (Or.inr (Or.inr (Or.inl ⟨cA, _, _, rfl, rfl, zty_last⟩))))) gn
    have kk := hih _ L _ _ hg H1 locs _ _ ls j1 hl
    rw [List.map_cons, j2] at kk
    exact kk
def zd_anewa (cc : ByteArray) (own : String) (pc a nx : Nat) : Prop := nx = pc + 3 ∧ ∃ (i ci : Nat) (r : vw_C), a = 104 + ci ∧ (r.1 = RX8 ∨ r.1 = RX3) ∧ vwCl[ci]? = some r ∧ decode cc pc = .ok (.anewarray i, 3) ∧ Cond.classLink own i r.1 ∈ zGW
theorem zo_anewa (hx : p.tables.exec = Jvm.exec) (hb : c.code = cc) (h0 : ∀ o, P o → o.1 = 1) {own : String} (hown : s.vm.findClass own = some m.cls) (hw : ∀ w ∈ zGW, w.before args s = true) {zn : List Cond} (hZ : zZ zn s) (hR : mc ≤ R.cells ∧ ms ≤ R.slots) {ih : zK} (hih : zIh p l e R s m args below meth c Q nL D ρ b0 B0 mc ms P ih) {pc L a b nx : Nat} {st : List Nat} {M : zM}
    (hd : zd_anewa cc own pc a nx) (hg : zgood P (z_newa ih pc L st M a b nx)) : zWk p l e R s m args below meth c Q nL D ρ b0 B0 mc ms P pc L st M := by
  intro H locs cells slots ls hI hl
  unfold z_newa at hg
  obtain ⟨n0, rest, hst, hg1⟩ := zgl h0 hg
  subst hst
  clear hg
  rw [frc_eq] at hg1
  obtain ⟨gn, hg⟩ := zgc h0 hg1
  have gn := zble_t gn
  obtain ⟨r1, r2⟩ := zrs_ok (α := zα b0 B0) hI.1 n0
  rw [List.map_cons, ← r1]
  generalize zrs M.1 n0 = n at gn hg ⊢
  rw [zv_lo (by omega)]
  obtain ⟨g1, g2, g3, hg⟩ := zmk_ok h0 hg
  obtain ⟨ws, tys, hA⟩ := id hI.2.1
  obtain ⟨i1, i2, i3, i4, i5⟩ := id hI
  have hn : ¬ Int32.ofNat n < 0 := nI_pos (by omega)
  have hcl : (Int32.ofNat n).toNatClampNeg = n := nI_clamp (by omega)
  obtain ⟨rfl, i, ci, r, rfl, hr, hci, hd, hcl2⟩ := hd
  have hov : (Cond.arrayOver (.object r.1)).before args s = true := by
    rcases hr with hr | hr
    · rw [hr]; exact hZ.2.1.use
    · rw [hr]; exact hZ.2.2.use
  refine W.anew hx hb hown (hw _ hcl2) hov rfl hd rfl hn (by rw [hcl]; omega) (by omega) (by rw [hcl]; omega) fun cA kA comp y1 y2 y3 y4 => ?_
  rw [hcl]
  have hzc : zCl ρ (zα b0 B0) (tys ++ [(cA, .object r.1)]) (104 + ci, n, 0) (.inl (cA, n, .inr (.inr (.inr (.inr (fun _ => none)))))) := by
    refine Or.inr (Or.inr (Or.inr (Or.inr (Or.inr ⟨cA, _, ci, r, _, rfl, rfl, hci, zty_last, fun j hj => ?_⟩))))
    unfold zae
    rw [show bget ((104 + ci, n, 0) : zC).2.2 j = bget 0 j from rfl, bget_0, show zdv ((104 + ci, n, 0) : zC).1 = zdv (104 + ci) from rfl, zdv_104, show Nat.xor 0 92233720368547758080 = 92233720368547758080 from by decide, zv_null (by decide)]
    rfl
  obtain ⟨j1, j2⟩ := zI_new (cn := (104 + ci, n, 0)) (H1 := H.push { cls := cA, slots := Array.replicate n .null, vm := .none }) hI hA (zK_app (cA := cA) (ty := .object r.1) hA.1 (fun n z => ⟨fun k h => (by cases h), kA, y2, comp, y3⟩) ⟨kA, comp, y2, y3, y4, y1⟩) zty_app g1 g2 g3 (e1 := .inl (cA, n, .inr (.inr (.inr (.inr (fun _ => none))))))
    (by show (H.push _)[H.size]? = some (vp_cell _ _); rw [vp_cell_q, arrV_new]; simp; rfl) (by simp) (fun x hx => by rw [Array.getElem?_push, if_neg (Nat.ne_of_lt hx)]) hzc gn
  have kk := hih _ L _ _ hg _ locs _ _ ls j1 hl
  rw [List.map_cons, j2] at kk
  exact kk
/-- what a field of a new object holds -/
def zfd (ty : FieldType) (v : Nat) : Prop := ((ty = .int ∨ ty = .boolean) ∧ v = 0) ∨ (ty = .long ∧ v = 36893488147419103232) ∨ (((∃ n, ty = .object n) ∨ ∃ n, ty = .array n) ∧ v = 92233720368547758080)
theorem zfd_ok {ty : FieldType} {v : Nat} (h : zfd ty v) : defaultValue ty = zv ρ (zα b0 B0) v := by
  rcases h with ⟨h | h, rfl⟩ | ⟨h, rfl⟩ | ⟨⟨n, h⟩ | ⟨n, h⟩, rfl⟩
  · rw [h, zv_lo (by decide)]; rfl
  · rw [h, zv_lo (by decide)]; rfl
  · rw [h, zv_ll (x := 0) (by decide)]; rfl
  · rw [h, zv_null (by decide)]; rfl
  · rw [h, zv_null (by decide)]; rfl
def zd_new (cc : ByteArray) (own : String) (pc a nx : Nat) (t : Nat × Nat) : Prop := nx = pc + 3 ∧ a < 13 ∧ ∃ (i : Nat) (C : String) (T : u_T) (N : Nat) (ty : Nat → FieldType), decode cc pc = .ok (.new i, 3) ∧ zClOK a C T N ty ∧ t.1 = N ∧ N ≤ 60000 ∧ Cond.classLink own i C ∈ zGW ∧ Cond.instantiable C N ∈ zGW ∧ Cond.initialized C ∈ zGW ∧ ∀ k, k < N → zfd (ty k) (bget t.2 k)
theorem zo_new (hx : p.tables.exec = Jvm.exec) (hb : c.code = cc) (h0 : ∀ o, P o → o.1 = 1) {own : String} (hown : s.vm.findClass own = some m.cls) (hw : ∀ w ∈ zGW, w.before args s = true) (hR : mc ≤ R.cells ∧ ms ≤ R.slots) {ih : zK} (hih : zIh p l e R s m args below meth c Q nL D ρ b0 B0 mc ms P ih) {T0 : List (Nat × Nat)} {pc L a b nx : Nat} {st : List Nat} {M : zM}
    (hd : zd_new cc own pc a nx (T0.getD a (0, 0))) (hg : zgood P (z_new T0 ih pc L st M a b nx)) : zWk p l e R s m args below meth c Q nL D ρ b0 B0 mc ms P pc L st M := by
  intro H locs cells slots ls hI hl
  unfold z_new at hg
  rw [zget_eq] at hg
  generalize T0.getD a (0, 0) = t at hd hg
  unfold z_new1 at hg
  obtain ⟨g1, g2, g3, hg⟩ := zmk_ok h0 hg
  obtain ⟨ws, tys, hA⟩ := id hI.2.1
  obtain ⟨i1, i2, i3, i4, i5⟩ := id hI
  obtain ⟨rfl, ha, i, C, T, N, ty, hd, ⟨c1, c2, c3, c4⟩, rfl, hN, w1, w2, w3, hf⟩ := hd
  have hKn := hA.1.1 a _ c1
  refine W.newcK hx hb hown (hw _ w1) (hw _ w2) (hw _ w3) rfl hd (by omega) (by omega) hKn.2.1 rfl fun H1 kC hkC z1 z2 z3 => ?_
  have fsg : ∀ k, k < t.1 → ((List.range t.1).map (fun k => zv ρ (zα b0 B0) (bget t.2 k)))[k]? = some (zv ρ (zα b0 B0) (bget t.2 k)) := by
    intro k hk
    rw [List.getElem?_map, List.getElem?_range hk]
    rfl
  obtain ⟨j1, j2⟩ := zI_new (cn := (a, t.1, t.2)) hI hA hA.1 (fun _ _ z => z) g1 g2 g3 (e1 := .inr (a, (List.range t.1).map (fun k => zv ρ (zα b0 B0) (bget t.2 k))))
    ⟨_, c1, (u_born ty hw c2 hKn hkC z1 c3).to (fun k hk => by
      rw [zfd_ok (ρ := ρ) (b0 := b0) (B0 := B0) (hf k hk)]
      unfold vp_V
      rw [List.getD_eq_getElem?_getD, fsg k hk]
      rfl)⟩ z2 z3 (Or.inl ⟨_, _, rfl, ha, c1, rfl, by rw [List.length_map, List.length_range], fun k hk => fsg k hk⟩) hN
  have kk := hih _ L _ _ hg H1 locs _ _ ls j1 hl
  rw [List.map_cons, j2] at kk
  exact kk
theorem zwt_eq (r : List Nat) : zwt r = ((r.map (zv ρ (zα b0 B0))).map fun v => v.category).sum := by
  induction r with
  | nil => rfl
  | cons v t ih =>
    have key : zwt (v :: t) = cond (Nat.beq (zkd v) 1) (Nat.succ (Nat.succ (zwt t))) (Nat.succ (zwt t)) := rfl
    rw [key, List.map_cons, List.map_cons, List.sum_cons, ← ih]
    cases h : Nat.beq (zkd v) 1 with
    | true => rw [cond_true, zv_cat2 (zbeq_t h)]; omega
    | false => rw [cond_false, zv_cat1 (zbeq_f h)]; omega
def zd_oini (cc : ByteArray) (own : String) (pc nx : Nat) : Prop := nx = pc + 3 ∧ ∃ i : Nat, decode cc pc = .ok (.invokespecial i, 3) ∧ Cond.methodLink own i objectInit ∈ zGW ∧ Cond.instanceMethod objectInit ∈ zGW ∧ Cond.code objectInit ⟨#[0xb1]⟩ 1 none ∈ zGW
theorem zo_oini (hx : p.tables.exec = Jvm.exec) (hb : c.code = cc) (hml : c.maxLocals = nL) (h0 : ∀ o, P o → o.1 = 1) {own : String} (hown : s.vm.findClass own = some m.cls) (hw : ∀ w ∈ zGW, w.before args s = true) (hfr : 1 ≤ R.frames) (hlo : 20 ≤ R.locals) {ih : zK} (hih : zIh p l e R s m args below meth c Q nL D ρ b0 B0 mc ms P ih) {pc L a b nx : Nat} {st : List Nat} {M : zM}
    (hd : zd_oini cc own pc nx) (hg : zgood P (z_oini ih pc L st M a b nx)) : zWk p l e R s m args below meth c Q nL D ρ b0 B0 mc ms P pc L st M := by
  intro H locs cells slots ls hI hl
  unfold z_oini at hg
  obtain ⟨r, rest, hst, hg1⟩ := zgl h0 hg
  subst hst
  clear hg
  obtain ⟨q, er, hg, -, -, -⟩ := zrf_ok (ρ := ρ) (b0 := b0) (B0 := B0) h0 hg1
  obtain ⟨gw, hg⟩ := zgc h0 hg
  have gw := zble_t gw
  rw [zwt_eq (ρ := ρ) (b0 := b0) (B0 := B0)] at gw
  obtain ⟨rfl, i, hd, w1, w2, w3⟩ := hd
  rw [List.map_cons, er]
  have hroom := lv_room (pc := pc) (ls := ls) (m := m) (rest := .ref (zα b0 B0 q) :: rest.map (zv ρ (zα b0 B0))) gw
  exact W.objInit hx hb hown (hw _ w1) (hw _ w2) (hw _ w3) rfl (by show ls.size = _; rw [hl.1, hml]) rfl hd hfr (by omega) (hih _ L rest M hg H locs cells slots ls hI hl)
end ZNEW
