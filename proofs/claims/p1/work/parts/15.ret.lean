/-! A copy of an array; returns -/
section ZRET
variable {p : Program} {l : Launch} {e : Env} {R : Room} {s : State} {m : MethodId} {args : Array Value} {below : List Frame} {meth : Method} {c : Code} {Q : State → Prop}
variable {cc : ByteArray} {nL : Nat} {D : va_G} {ρ : Nat → Int} {b0 B0 mc ms : Nat} {P : zO → Prop} {ret : Option FieldType}
def zRt (cc : ByteArray) (ret : Option FieldType) (pc v : Nat) : Prop :=
  (v = 110680464442257309696 ∧ decode cc pc = .ok (.return_, 1) ∧ ret = none) ∨ (zkd v = 0 ∧ decode cc pc = .ok (.ireturn, 1) ∧ (ret = some .int ∨ (ret = some .boolean ∧ v ≤ 1))) ∨
  (zkd v = 1 ∧ decode cc pc = .ok (.lreturn, 1) ∧ ret = some .long) ∨ (zkd v = 2 ∧ decode cc pc = .ok (.areturn, 1) ∧ ∃ rt, ret = some rt ∧ ((∃ n, rt = .object n) ∨ ∃ t, rt = .array t))
def zRetOK (p : Program) (l : Launch) (e : Env) (R : Room) (s : State) (m : MethodId) (args : Array Value) (below : List Frame) (meth : Method) (c : Code) (Q : State → Prop) (cc : ByteArray) (ret : Option FieldType) (D : va_G) (ρ : Nat → Int) (b0 B0 mc ms : Nat) (P : zO → Prop) : Prop :=
  ∀ (o : zO) (H : Heap) (locs : List Loc) (cells slots pc : Nat) (ls : Array Slot), P o → zsat ρ o.2.2.1 → zHR D ρ b0 B0 s H o.2.2.2.1 o.2.2.2.2 → va_S (fun q => B0 ≤ q) s.heap H locs → cells ≤ mc → slots ≤ ms → zRt cc ret pc o.2.1 →
    W p l e R s m args below meth c H locs cells slots Q (F0 m pc ls (zrv ρ (zα b0 B0) o.2.1).toList)
theorem zo_vret (h0 : ∀ o, P o → o.1 = 1) (hret : zRetOK p l e R s m args below meth c Q cc ret D ρ b0 B0 mc ms P) {ih : zK} {pc L a b nx : Nat} {st : List Nat} {M : zM}
    (hd : decode cc pc = .ok (.return_, 1) ∧ ret = none) (hg : zgood P (z_vret ih pc L st M a b nx)) : zWk p l e R s m args below meth c Q nL D ρ b0 B0 mc ms P pc L st M := by
  intro H locs cells slots ls hI hl
  cases st with
  | cons v r => exact (zgood_no h0 hg).elim
  | nil =>
    have hP := hg _ (List.mem_singleton.mpr rfl)
    obtain ⟨i1, i2, i3, i4, i5⟩ := hI
    exact hret _ H locs cells slots pc ls hP i1 i2 i3 (by omega) (by omega) (Or.inl ⟨rfl, hd⟩)
def zd_xret (cc : ByteArray) (ret : Option FieldType) (pc a b : Nat) : Prop := (a = 0 ∧ decode cc pc = .ok (.ireturn, 1) ∧ ((b = 0 ∧ ret = some .int) ∨ (b ≠ 0 ∧ ret = some .boolean))) ∨ (a = 1 ∧ decode cc pc = .ok (.lreturn, 1) ∧ ret = some .long) ∨
  (a = 2 ∧ decode cc pc = .ok (.areturn, 1) ∧ ∃ rt, ret = some rt ∧ ((∃ n, rt = .object n) ∨ ∃ t, rt = .array t))
theorem zo_xret (h0 : ∀ o, P o → o.1 = 1) (hret : zRetOK p l e R s m args below meth c Q cc ret D ρ b0 B0 mc ms P) {ih : zK} {pc L a b nx : Nat} {st : List Nat} {M : zM}
    (hd : zd_xret cc ret pc a b) (hg : zgood P (z_xret ih pc L st M a b nx)) : zWk p l e R s m args below meth c Q nL D ρ b0 B0 mc ms P pc L st M := by
  intro H locs cells slots ls hI hl
  unfold z_xret at hg
  obtain ⟨v, r, hst, hg1⟩ := zgl h0 hg
  subst hst
  clear hg
  cases r with
  | cons v2 r2 => exact (zgood_no h0 hg1).elim
  | nil =>
    have hg1 : zgood P (frc (zrs M.1 v) fun v1 => z_xret1 v1 M a b) := hg1
    rw [frc_eq] at hg1
    obtain ⟨r1, r2⟩ := zrs_ok (α := zα b0 B0) hI.1 v
    unfold z_xret1 at hg1
    obtain ⟨ka, hg⟩ := zgc h0 hg1
    have ka := zbeq_t ka
    obtain ⟨i1, i2, i3, i4, i5⟩ := hI
    have ha : a ≤ 2 := by rcases hd with ⟨rfl, -⟩ | ⟨rfl, -⟩ | ⟨rfl, -⟩ <;> omega
    have es : (zrv ρ (zα b0 B0) (zrs M.1 v)).toList = [v].map (zv ρ (zα b0 B0)) := by
      unfold zrv
      rw [zkd_eq] at ka
      rw [if_neg (by omega), r1]
      rfl
    have key : P (1, zrs M.1 v, M.1, M.2.1, M.2.2.1) → zRt cc ret pc (zrs M.1 v) → W p l e R s m args below meth c H locs cells slots Q (F0 m pc ls ([v].map (zv ρ (zα b0 B0)))) := by
      intro hP hz
      have := hret (1, zrs M.1 v, M.1, M.2.1, M.2.2.1) H locs cells slots pc ls hP i1 i2 i3 (by omega) (by omega) hz
      rw [es] at this
      exact this
    rcases zgi hg with ⟨hb0, hg⟩ | ⟨hb0, hg⟩
    · have hP := hg _ (List.mem_singleton.mpr rfl)
      refine key hP ?_
      rcases hd with ⟨rfl, hd, ⟨-, hr⟩ | ⟨hb, -⟩⟩ | ⟨rfl, hd, hr⟩ | ⟨rfl, hd, hr⟩
      · exact Or.inr (Or.inl ⟨ka, hd, Or.inl hr⟩)
      · exact absurd (zbeq_t hb0) hb
      · exact Or.inr (Or.inr (Or.inl ⟨ka, hd, hr⟩))
      · exact Or.inr (Or.inr (Or.inr ⟨ka, hd, hr⟩))
    · obtain ⟨hv1, hg⟩ := zgc h0 hg
      have hP := hg _ (List.mem_singleton.mpr rfl)
      refine key hP ?_
      rcases hd with ⟨rfl, hd, ⟨hb, hr⟩ | ⟨-, hr⟩⟩ | ⟨rfl, hd, hr⟩ | ⟨rfl, hd, hr⟩
      · exact absurd hb (zbeq_f hb0)
      · exact Or.inr (Or.inl ⟨ka, hd, Or.inr ⟨hr, zble_t hv1⟩⟩)
      · exact Or.inr (Or.inr (Or.inl ⟨ka, hd, hr⟩))
      · exact Or.inr (Or.inr (Or.inr ⟨ka, hd, hr⟩))
def zd_copy (cc : ByteArray) (own : String) (pc nx : Nat) : Prop := nx = pc + 3 ∧ ∃ i : Nat, decode cc pc = .ok (.invokestatic i, 3) ∧ Cond.methodLink own i arraycopyName ∈ zGW ∧ Cond.native arraycopyName ∈ zGW ∧ Cond.static arraycopyName ∈ zGW ∧ Cond.initialized "java/lang/System" ∈ zGW
theorem z_copy2_ok (h0 : ∀ o, P o → o.1 = 1) {ih : zK} {L n j t i f nx : Nat} {r : List Nat} {M : zM} (hg : zgood P (z_copy2 ih L n j t i f r M nx)) :
    i = 0 ∧ j = 0 ∧ ∃ q q2 : Nat, zv ρ (zα b0 B0) t = .ref (zα b0 B0 q) ∧ zv ρ (zα b0 B0) f = .ref (zα b0 B0 q2) ∧ q2 ≠ 0 ∧ q ≠ 0 ∧ (hget M.2.1 q).1 = 100 ∧ (hget M.2.1 q2).1 = 100 ∧ (hget M.2.1 q).2.1 = n ∧ (hget M.2.1 q2).2.1 = n ∧ zwt r ≤ 8 ∧ zgood P (ih nx L r (M.1, hs2 M.2.1 q (100, n, (hget M.2.1 q2).2.2), M.2.2)) := by
  unfold z_copy2 at hg
  obtain ⟨hi, hg1⟩ := zgc h0 hg
  obtain ⟨hj, hg2⟩ := zgc h0 hg1
  obtain ⟨q, er, hg3, -, -, -⟩ := zrf_ok (ρ := ρ) (b0 := b0) (B0 := B0) h0 hg2
  obtain ⟨q2, er2, hg4, -, -, -⟩ := zrf_ok (ρ := ρ) (b0 := b0) (B0 := B0) h0 hg3
  obtain ⟨hq20, hg5⟩ := zgcn h0 hg4
  obtain ⟨hqq, hg6⟩ := zgcn h0 hg5
  unfold z_copy1 at hg6
  obtain ⟨hq0, hg7⟩ := zgcn h0 hg6
  obtain ⟨k1, hg8⟩ := zgc h0 hg7
  obtain ⟨k2, hg9⟩ := zgc h0 hg8
  obtain ⟨k3, hga⟩ := zgc h0 hg9
  obtain ⟨k4, hgb⟩ := zgc h0 hga
  obtain ⟨gw, hgc⟩ := zgc h0 hgb
  rw [hset_eq] at hgc
  exact ⟨zbeq_t hi, zbeq_t hj, q, q2, er, er2, zbeq_f hq20, zbeq_f hq0, zbeq_t k1, zbeq_t k2, zbeq_t k3, zbeq_t k4, zble_t gw, hgc⟩
theorem zo_copy (hx : p.tables.exec = Jvm.exec) (hb : c.code = cc) (hml : c.maxLocals = nL) (h0 : ∀ o, P o → o.1 = 1) {own : String} (hown : s.vm.findClass own = some m.cls) (hw : ∀ w ∈ zGW, w.before args s = true) (hfr : 1 ≤ R.frames) (hlo : 100 ≤ R.locals) {ih : zK} (hih : zIh p l e R s m args below meth c Q nL D ρ b0 B0 mc ms P ih) {pc L a b nx : Nat} {st : List Nat} {M : zM}
    (hd : zd_copy cc own pc nx) (hg : zgood P (z_copy ih pc L st M a b nx)) : zWk p l e R s m args below meth c Q nL D ρ b0 B0 mc ms P pc L st M := by
  intro H locs cells slots ls hI hl
  unfold z_copy at hg
  obtain ⟨xs, r, rfl, hxl, hx6, hg⟩ := ztake_ok h0 _ _ _ hg
  match xs, hxl, hg with
  | [n, j, t, i, f], _, hg =>
    have hg : zgood P (z_copy2 ih L n j t i f r M nx) := hg
    obtain ⟨hi, hj, q, q2, er, er2, hq20, hq0, k1, k2, k3, k4, gw, hgz⟩ := z_copy2_ok (ρ := ρ) (b0 := b0) (B0 := B0) h0 hg
    subst hi
    subst hj
    rw [zwt_eq (ρ := ρ) (b0 := b0) (B0 := B0)] at gw
    obtain ⟨rfl, ix, hd, v1, v2, v3, v4⟩ := hd
    obtain ⟨ws, tys, hA⟩ := id hI.2.1
    have h60 := hA.2.2.2.2.2.2.2.2.2.2 q
    rw [k3] at h60
    obtain ⟨e1, w1, w2⟩ := zAt_cell hA hq0 (by rw [k1]; decide)
    obtain ⟨e2, u1, u2⟩ := zAt_cell hA hq20 (by rw [k2]; decide)
    rcases w2 with ⟨_, _, _, w3, -⟩ | ⟨cA, t0, g, w3, w4, w5, w6⟩ | ⟨_, _, _, w3, -⟩ | ⟨_, _, _, w3, -⟩ | ⟨_, _, _, w3, -⟩ | ⟨_, _, _, _, _, w3, -⟩
    · omega
    · rcases u2 with ⟨_, _, _, u3, -⟩ | ⟨cB, t1, g2, u3, u4, u5, u6⟩ | ⟨_, _, _, u3, -⟩ | ⟨_, _, _, u3, -⟩ | ⟨_, _, _, u3, -⟩ | ⟨_, _, _, _, _, u3, -⟩
      · omega
      · rw [w4, k3] at w1
        rw [u4, k4] at u1
        rw [k4] at u6
        rw [show ([n, 0, t, 0, f] ++ r).map (zv ρ (zα b0 B0)) = zv ρ (zα b0 B0) n :: zv ρ (zα b0 B0) 0 :: zv ρ (zα b0 B0) t :: zv ρ (zα b0 B0) 0 :: zv ρ (zα b0 B0) f :: r.map (zv ρ (zα b0 B0)) from rfl, er, er2, zv_lo (show 0 ≤ 4294967295 by decide), zv_lo (show n ≤ 4294967295 by omega)]
        have n0 : (Int32.ofNat 0).toInt = 0 := rfl
        have nz : ¬ Int32.ofNat 0 < 0 := by decide
        have nI : (Int32.ofNat n).toInt = (n : Int) := Int32.toInt_ofNat_of_lt (by omega)
        have nc : (Int32.ofNat n).toNatClampNeg = n := nI_clamp (by omega)
        have nn : ¬ Int32.ofNat n < 0 := by
          intro hn
          have hn := Int32.lt_iff_toInt_lt.mp hn
          rw [nI] at hn
          have : (0 : Int32).toInt = 0 := rfl
          omega
        intro T hT X
        have hc0 : H[zα b0 B0 q2]? = some (vp_cell cB (n, .inl g2)) := hA.2.1 _ _ u1
        have hc1 : H[zα b0 B0 q]? = some (vp_cell cA (n, .inl g)) := hA.2.1 _ _ w1
        obtain ⟨-, kk0, hk0, cm0, hkk0⟩ := (hA.1.2 t1 _ u5).1 n (fun j => .int (g2 j))
        obtain ⟨-, kk1, hk1, cm1, hkk1⟩ := (hA.1.2 t0 _ w5).1 n (fun j => .int (g j))
        obtain ⟨vm', X', step⟩ := X.arraycopy hx hown (hw _ v1) (hw _ v2) (hw _ v3) (hw _ v4) (src := zα b0 B0 q2) (dst := zα b0 B0 q) (cs := vp_cell cB (n, .inl g2)) (cd := vp_cell cA (n, .inl g)) (srcPos := Int32.ofNat 0) (destPos := Int32.ofNat 0) (n := Int32.ofNat n) (by rw [hT]; exact hc0) (by rw [hT]; exact hc1)
          (fun _ h => by cases h) (fun _ h => by cases h) (fun h => by cases h) (fun h => by cases h) hk0 hk1 hkk0 hkk1 (by simp [refKind]) nz nz nn
          (by rw [n0, nI]; show ¬ _ > ((arrV cB n (fun j => .int (g2 j))).slots.size : Int); rw [arrV_size]; omega)
          (by rw [n0, nI]; show ¬ _ > ((arrV cA n (fun j => .int (g j))).slots.size : Int); rw [arrV_size]; omega)
          (fun vm₁ _ i hi => by
            rw [nc] at hi
            have e : (vp_cell cB (n, .inl g2)).slots.getD ((Int32.ofNat 0).toNatClampNeg + i) .null = .int (g2 ((Int32.ofNat 0).toNatClampNeg + i)) := by
              show (arrV cB n (fun j => .int (g2 j))).slots.getD _ _ = _
              rw [Array.getD_eq_getD_getElem?, arrV_read _ _ (by rw [show (Int32.ofNat 0).toNatClampNeg = 0 from rfl]; omega)]
              rfl
            refine ⟨?_, ?_⟩
            · rw [e]
              rfl
            · rw [e]
              exact trivial)
          (g := F0 m pc ls (.int (Int32.ofNat n) :: .int (Int32.ofNat 0) :: .ref (zα b0 B0 q) :: .int (Int32.ofNat 0) :: .ref (zα b0 B0 q2) :: r.map (zv ρ (zα b0 B0)))) rfl (by rw [hml]; exact hl.1) (rest := r.map (zv ρ (zα b0 B0))) rfl (by rw [hb]; exact hd) hfr (by
            have : nativeFrameWords "java/lang/System" "arraycopy" 5 + 11 ≤ 90 := by decide +kernel
            show 2 * 0 + _ + _ ≤ _
            omega)
        have e1 : copied (vp_cell cB (n, .inl g2)) (vp_cell cA (n, .inl g)) (Int32.ofNat 0) (Int32.ofNat 0) (Int32.ofNat n) = vp_cell cA (n, .inl (va_cpy g2 g (Int32.ofNat 0).toNatClampNeg (Int32.ofNat 0).toNatClampNeg (Int32.ofNat n).toNatClampNeg)) := va_copied (fun z => .int z) cB cA g2 g (by rw [nc, show (Int32.ofNat 0).toNatClampNeg = 0 from rfl]; omega)
        rw [e1, nc, show (Int32.ofNat 0).toNatClampNeg = 0 from rfl] at X' step
        have hl2 : zα b0 B0 q < H.size := (Array.getElem?_eq_some_iff.mp hc1).1
        have hheap : ((T.setVm vm').setCell (zα b0 B0 q) (vp_cell cA (n, .inl (va_cpy g2 g 0 0 n)))).heap = H.setIfInBounds (zα b0 B0 q) (vp_cell cA (n, .inl (va_cpy g2 g 0 0 n))) := by rw [← hT]; rfl
        have oq : ∀ x : Nat, x ≠ zα b0 B0 q → (H.setIfInBounds (zα b0 B0 q) (vp_cell cA (n, .inl (va_cpy g2 g 0 0 n))))[x]? = H[x]? := fun x hx => by simp [Array.getElem?_setIfInBounds, Ne.symm hx]
        have hself : (H.setIfInBounds (zα b0 B0 q) (vp_cell cA (n, .inl (va_cpy g2 g 0 0 n))))[zα b0 B0 q]? = some (vp_cell cA (n, .inl (va_cpy g2 g 0 0 n))) := by simp [Array.getElem?_setIfInBounds, hl2]
        have hsz : (H.setIfInBounds (zα b0 B0 q) (vp_cell cA (n, .inl (va_cpy g2 g 0 0 n)))).size = H.size := by simp
        have hS := hI.2.2.1
        have hz := zHR_set hA hq0 w1 (e1 := .inl (cA, n, .inl (va_cpy g2 g 0 0 n))) (cn := (100, n, (hget M.2.1 q2).2.2)) hself hsz oq (Or.inr (Or.inl ⟨cA, t0, _, rfl, rfl, w5, fun j hj => (by
          have hj : j < n := hj
          show Value.int (va_cpy g2 g 0 0 n j) = zv ρ (zα b0 B0) (zae (100, n, (hget M.2.1 q2).2.2) j)
          unfold va_cpy
          rw [if_pos ⟨by omega, by omega⟩, Nat.sub_zero, Nat.zero_add]
          have := u6 j hj
          unfold zae at this ⊢
          rw [k2] at this
          exact this)⟩)) h60
        obtain ⟨t2, a1, b1⟩ := hih _ L r _ hgz _ _ cells slots ls ⟨hI.1, hz, ⟨by rw [hsz]; exact hS.1, fun x g1 g2 => by
            rw [oq x (fun e => g2 (by rw [e]; exact zα_le hq0))]
            exact hS.2.1 x g1 g2, fun x hx => by
            rcases List.mem_append.mp hx with h | h
            · exact hS.2.2 x h
            · obtain ⟨z, -, hz⟩ := List.mem_map.mp h
              rw [← hz]
              exact zα_le hq0⟩, hI.2.2.2⟩ hl _ hheap X'
        exact ⟨t2, step t2 a1, b1⟩
      · omega
      · omega
      · omega
      · omega
    · omega
    · omega
    · omega
    · omega
/-- the lesser, the greater of two ints -/
def zd_mm (cc : ByteArray) (own : String) (pc a nx : Nat) : Prop := nx = pc + 3 ∧ ∃ i : Nat, decode cc pc = .ok (.invokestatic i, 3) ∧ Cond.initialized "java/lang/Math" ∈ zGW ∧
  ((a = 0 ∧ Cond.methodLink own i Lib.Math.min.name ∈ zGW ∧ Cond.static Lib.Math.min.name ∈ zGW ∧ Cond.code Lib.Math.min.name Lib.Math.min.code 2 (some .int) ∈ zGW) ∨
   (a = 1 ∧ Cond.methodLink own i Lib.Math.max.name ∈ zGW ∧ Cond.static Lib.Math.max.name ∈ zGW ∧ Cond.code Lib.Math.max.name Lib.Math.max.code 2 (some .int) ∈ zGW))
theorem zo_mm (hx : p.tables.exec = Jvm.exec) (hb : c.code = cc) (hml : c.maxLocals = nL) (h0 : ∀ o, P o → o.1 = 1) {own : String} (hown : s.vm.findClass own = some m.cls) (hw : ∀ w ∈ zGW, w.before args s = true) (hfr : 1 ≤ R.frames) (hlo : 100 ≤ R.locals) (hR : mc ≤ R.cells ∧ ms ≤ R.slots) {ih : zK} (hih : zIh p l e R s m args below meth c Q nL D ρ b0 B0 mc ms P ih) {pc L a b nx : Nat} {st : List Nat} {M : zM}
    (hd : zd_mm cc own pc a nx) (hg : zgood P (z_mm ih pc L st M a b nx)) : zWk p l e R s m args below meth c Q nL D ρ b0 B0 mc ms P pc L st M := by
  intro H locs cells slots ls hI hl
  unfold z_mm at hg
  obtain ⟨y, r1, hst, hg0⟩ := zgl h0 hg
  subst hst
  clear hg
  obtain ⟨x, r, hst, hg⟩ := zgl h0 hg0
  subst hst
  clear hg0
  rw [frc_eq, frc_eq] at hg
  obtain ⟨rx, -⟩ := zrs_ok (α := zα b0 B0) hI.1 x
  obtain ⟨ry, -⟩ := zrs_ok (α := zα b0 B0) hI.1 y
  rw [List.map_cons, List.map_cons, ← rx, ← ry]
  generalize zrs M.1 x = x1 at hg ⊢
  generalize zrs M.1 y = y1 at hg ⊢
  unfold z_mm1 at hg
  obtain ⟨g1, hg⟩ := zgc h0 hg
  obtain ⟨g2, hg⟩ := zgc h0 hg
  obtain ⟨gw, hg⟩ := zgc h0 hg
  have g1 := zble_t g1
  have g2 := zble_t g2
  have gw := zble_t gw
  rw [zwt_eq (ρ := ρ) (b0 := b0) (B0 := B0)] at gw
  rw [frc_eq] at hg
  obtain ⟨rfl, i, hd, v0, hd2⟩ := hd
  obtain ⟨i1, i2, i3, i4, i5⟩ := id hI
  rw [zv_lo g1, zv_lo g2]
  have lt : ∀ u w : Nat, u ≤ 4294967295 → w ≤ 4294967295 → (zci 2 (zb32 u) (zb32 w) = true ↔ Int32.ofNat u < Int32.ofNat w) := by
    intro u w gu gv
    rw [zci_iff 2 (zb32_ok (ρ := ρ) gu) (zb32_ok (ρ := ρ) gv), zvi_lo gu, zvi_lo gv]
    exact Int32.lt_iff_toInt_lt.symm
  rcases hd2 with ⟨rfl, v1, v2, v3⟩ | ⟨rfl, v1, v2, v3⟩
  · refine va_mmin hx hb (by rw [hml]; exact hl.1.symm) hown (hw _ v1) (hw _ v2) (hw _ v0) (hw _ v3) hfr (by omega) (by omega) (by omega) hd ?_
    have kk := hih _ L _ M hg H locs cells slots ls hI hl
    rw [show Nat.beq 0 0 = true from rfl, cond_true] at kk
    cases q : zci 2 (zb32 y1) (zb32 x1) with
    | true =>
      rw [q, cond_true, List.map_cons, zv_lo g2] at kk
      rw [if_pos ((lt _ _ g2 g1).mp q)]
      exact kk
    | false =>
      rw [q, cond_false, List.map_cons, zv_lo g1] at kk
      rw [if_neg (fun z => by rw [(lt _ _ g2 g1).mpr z] at q; cases q)]
      exact kk
  · refine va_mmax hx hb (by rw [hml]; exact hl.1.symm) hown (hw _ v1) (hw _ v2) (hw _ v0) (hw _ v3) hfr (by omega) (by omega) (by omega) hd ?_
    have kk := hih _ L _ M hg H locs cells slots ls hI hl
    rw [show Nat.beq 1 0 = false from rfl, cond_false] at kk
    cases q : zci 2 (zb32 x1) (zb32 y1) with
    | true =>
      rw [q, cond_true, List.map_cons, zv_lo g2] at kk
      rw [if_pos ((lt _ _ g1 g2).mp q)]
      exact kk
    | false =>
      rw [q, cond_false, List.map_cons, zv_lo g1] at kk
      rw [if_neg (fun z => by rw [(lt _ _ g1 g2).mpr z] at q; cases q)]
      exact kk
end ZRET
