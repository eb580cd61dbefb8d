/-! Conversions, the stack, references compared, switches, against the machine -/
theorem zi2l_a {x : Nat} (h : x < 2147483648) : (Int32.ofNat x).toInt64 = Int64.ofNat x := by
  apply Int64.toInt_inj.mp
  rw [Int32.toInt_toInt64, zt32 (by omega), zt64 (by omega), if_pos h, if_pos (by omega)]
theorem zi2l_b {x : Nat} (h : 2147483648 ≤ x) (h2 : x ≤ 4294967295) : (Int32.ofNat x).toInt64 = Int64.ofNat (x + 18446744069414584320) := by
  apply Int64.toInt_inj.mp
  rw [Int32.toInt_toInt64, zt32 h2, zt64 (by omega), if_neg (by omega), if_neg (by omega)]
  omega
theorem zi2l_c {z : Int} (h1 : -2147483648 ≤ z) (h2 : z ≤ 2147483647) : (Int32.ofInt z).toInt64 = Int64.ofInt z := by
  apply Int64.toInt_inj.mp
  rw [Int32.toInt_toInt64, Int32.toInt_ofInt, Int64.toInt_ofInt, show Int32.size = 4294967296 from rfl, show Int64.size = 18446744073709551616 from rfl, Int.bmod_eq_of_le (by omega) (by omega), Int.bmod_eq_of_le (by omega) (by omega)]
theorem zi2b_a : ∀ x, x < 128 → (Int32.ofNat x).toInt8.toInt32 = Int32.ofNat x := by decide +kernel
theorem zi2b_k : ∀ k : Nat, k < 256 → (Int32.ofInt ((k : Int) - 128)).toInt8.toInt32 = Int32.ofInt ((k : Int) - 128) := by decide +kernel
theorem zi2b_c {z : Int} (h1 : -128 ≤ z) (h2 : z ≤ 127) : (Int32.ofInt z).toInt8.toInt32 = Int32.ofInt z := by
  have h := zi2b_k (z + 128).toNat (by omega)
  rw [show ((z + 128).toNat : Int) - 128 = z by omega] at h
  exact h
theorem zα_inj {b0 B0 : Nat} (h : b0 < B0) {i j : Nat} (e : zα b0 B0 i = zα b0 B0 j) : i = j := by
  unfold zα at e
  split at e <;> split at e <;> omega
section ZOP5
variable {p : Program} {l : Launch} {e : Env} {R : Room} {s : State} {m : MethodId} {args : Array Value} {below : List Frame} {meth : Method} {c : Code} {Q : State → Prop}
variable {cc : ByteArray} {nL : Nat} {D : va_G} {ρ : Nat → Int} {b0 B0 mc ms : Nat} {P : zO → Prop}
def zd_cv (cc : ByteArray) (pc w nx : Nat) : Prop := nx = pc + 1 ∧ ((w = 0 ∧ decode cc pc = .ok (.i2l, 1)) ∨ (w = 2 ∧ decode cc pc = .ok (.i2b, 1)))
theorem zo_cv (hx : p.tables.exec = Jvm.exec) (hb : c.code = cc) (h0 : ∀ o, P o → o.1 = 1) {ih : zK} (hih : zIh p l e R s m args below meth c Q nL D ρ b0 B0 mc ms P ih) {pc L w b nx : Nat} {st : List Nat} {M : zM}
    (hd : zd_cv cc pc w nx) (hg : zgood P (z_cv ih pc L st M w b nx)) : zWk p l e R s m args below meth c Q nL D ρ b0 B0 mc ms P pc L st M := by
  intro H locs cells slots ls hI hl
  unfold z_cv at hg
  obtain ⟨x, r, hst, hg1⟩ := zgl h0 hg
  subst hst
  clear hg
  have hg := hg1
  clear hg1
  rw [frc_eq] at hg
  unfold z_cv1 at hg
  obtain ⟨kx, hg⟩ := zgc h0 hg
  have kx := zbeq_t kx
  obtain ⟨r1, r2⟩ := zrs_ok (α := zα b0 B0) hI.1 x
  rw [List.map_cons, ← r1]
  generalize zrs M.1 x = x1 at kx hg ⊢
  rw [zv_i kx]
  obtain ⟨rfl, hd⟩ := hd
  rcases hd with ⟨rfl, hd⟩ | ⟨rfl, hd⟩
  · have hg : zgood P (z_i2l ih L x1 r M (pc + 1)) := hg
    unfold z_i2l at hg
    rcases zgi hg with ⟨g1, hg⟩ | ⟨-, hg⟩
    · have g1 := zble_t g1
      rw [frc_eq, zadd] at hg
      rcases Nat.lt_or_ge x1 2147483648 with q | q
      · rw [zble_n q, cond_false] at hg
        have kk := hih _ L _ M hg H locs cells slots ls hI hl
        rw [List.map_cons, zv_ll (by omega)] at kk
        rw [zvi_lo g1]
        exact lv_i2l hx hb hd (zi2l_a q) kk
      · rw [Nat.ble_eq_true_of_le q, cond_true, zadd] at hg
        have kk := hih _ L _ M hg H locs cells slots ls hI hl
        rw [List.map_cons, zv_ll (by omega)] at kk
        rw [zvi_lo g1]
        exact lv_i2l hx hb hd (zi2l_b q g1) kk
    · obtain ⟨sy, hg⟩ := zgc h0 hg
      obtain ⟨g1, hg⟩ := zgc h0 hg
      obtain ⟨g2, hg⟩ := zgc h0 hg
      have g1 := zble_t g1
      have g2 := zble_t g2
      rw [frc_eq, zadd] at hg
      have kk := hih _ L _ M hg H locs cells slots ls hI hl
      rw [zkd_eq] at kx
      rcases zsy_i sy with ⟨s1, s2, s3⟩ | ⟨s1, s2, s3⟩
      · obtain ⟨i1, i2, i3⟩ := zbv_iv hI.1 (zid x1)
        have i4 := zbv_eq hI.1 (zid x1)
        have e1 : zv ρ (zα b0 B0) (36893488147419103232 + x1) = .long (Int64.ofInt (ρ (zid x1))) := by
          rw [zv_l (by rw [zkd_eq]; omega)]
          unfold zvl
          rw [if_neg (by omega), show 36893488147419103232 + x1 - 55340232221128654848 = zid x1 by omega]
        rw [List.map_cons, e1] at kk
        refine lv_i2l hx hb hd ?_ kk
        unfold zvi
        rw [if_neg (by omega), ← s3]
        exact zi2l_c (by omega) (by omega)
      · omega
  · have hg : zgood P (z_i2b ih L x1 r M (pc + 1)) := hg
    unfold z_i2b at hg
    rcases zgi hg with ⟨g1, hg⟩ | ⟨-, hg⟩
    · have g1 := zble_t g1
      have kk := hih _ L _ M hg H locs cells slots ls hI hl
      rw [List.map_cons, zv_lo (by omega)] at kk
      rw [zvi_lo (by omega)]
      exact lv_i2b hx hb hd (zi2b_a _ (by omega)) kk
    · obtain ⟨sy, hg⟩ := zgc h0 hg
      obtain ⟨g1, hg⟩ := zgc h0 hg
      obtain ⟨g2, hg⟩ := zgc h0 hg
      have g1 := zble_t g1
      have g2 := zble_t g2
      have kk := hih _ L _ M hg H locs cells slots ls hI hl
      rw [List.map_cons, zv_i kx] at kk
      refine lv_i2b hx hb hd ?_ kk
      rw [zkd_eq] at kx
      rcases zsy_i sy with ⟨s1, s2, s3⟩ | ⟨s1, s2, s3⟩
      · obtain ⟨i1, i2, i3⟩ := zbv_iv hI.1 (zid x1)
        have i4 := zbv_eq hI.1 (zid x1)
        unfold zvi
        rw [if_neg (by omega), ← s3]
        exact zi2b_c (by omega) (by omega)
      · omega
theorem zo_dup (hx : p.tables.exec = Jvm.exec) (hb : c.code = cc) (h0 : ∀ o, P o → o.1 = 1) {ih : zK} (hih : zIh p l e R s m args below meth c Q nL D ρ b0 B0 mc ms P ih) {pc L a b nx : Nat} {st : List Nat} {M : zM}
    (hd : nx = pc + 1 ∧ decode cc pc = .ok (.dup, 1)) (hg : zgood P (z_dup ih pc L st M a b nx)) : zWk p l e R s m args below meth c Q nL D ρ b0 B0 mc ms P pc L st M := by
  intro H locs cells slots ls hI hl
  unfold z_dup at hg
  obtain ⟨v, r, hst, hg1⟩ := zgl h0 hg
  subst hst
  clear hg
  have hg := hg1
  clear hg1
  obtain ⟨k, hg⟩ := zgcn h0 hg
  obtain ⟨rfl, hd⟩ := hd
  have kk := hih _ L _ M hg H locs cells slots ls hI hl
  rw [List.map_cons, List.map_cons] at kk
  exact lv_dup hx hb hd (zv_cat1 (zbeq_f k)) kk
theorem zo_pop (hx : p.tables.exec = Jvm.exec) (hb : c.code = cc) (h0 : ∀ o, P o → o.1 = 1) {ih : zK} (hih : zIh p l e R s m args below meth c Q nL D ρ b0 B0 mc ms P ih) {pc L a b nx : Nat} {st : List Nat} {M : zM}
    (hd : nx = pc + 1 ∧ decode cc pc = .ok (.pop, 1)) (hg : zgood P (z_pop ih pc L st M a b nx)) : zWk p l e R s m args below meth c Q nL D ρ b0 B0 mc ms P pc L st M := by
  intro H locs cells slots ls hI hl
  unfold z_pop at hg
  obtain ⟨v, r, hst, hg1⟩ := zgl h0 hg
  subst hst
  clear hg
  have hg := hg1
  clear hg1
  obtain ⟨k, hg⟩ := zgcn h0 hg
  obtain ⟨rfl, hd⟩ := hd
  exact lv_pop hx hb hd (zv_cat1 (zbeq_f k)) (hih _ L _ M hg H locs cells slots ls hI hl)
theorem zo_null (hx : p.tables.exec = Jvm.exec) (hb : c.code = cc) (h0 : ∀ o, P o → o.1 = 1) {ih : zK} (hih : zIh p l e R s m args below meth c Q nL D ρ b0 B0 mc ms P ih) {pc L a b nx : Nat} {st : List Nat} {M : zM}
    (hd : nx = pc + 3 ∧ ∃ off : Int, ((a = 0 ∧ decode cc pc = .ok (.ifnull off, 3)) ∨ (a = 1 ∧ decode cc pc = .ok (.ifnonnull off, 3))) ∧ (pc : Int) + off = (b : Int)) (hg : zgood P (z_null ih pc L st M a b nx)) : zWk p l e R s m args below meth c Q nL D ρ b0 B0 mc ms P pc L st M := by
  intro H locs cells slots ls hI hl
  unfold z_null at hg
  obtain ⟨x, r, hst, hg1⟩ := zgl h0 hg
  subst hst
  clear hg
  have hg := hg1
  clear hg1
  unfold z_null1 at hg
  obtain ⟨kx, hg⟩ := zgc h0 hg
  have kx := zbeq_t kx
  rw [zkd_eq] at kx
  obtain ⟨rfl, off, hd, ht⟩ := hd
  rw [List.map_cons]
  rcases hd with ⟨rfl, hd⟩ | ⟨rfl, hd⟩
  · rw [show Nat.beq 0 0 = true from rfl, cond_true] at hg
    rcases zgi hg with ⟨g, hg⟩ | ⟨g, hg⟩
    · rw [zv_null (zble_t g)]
      exact lv_ifnullN hx hb hd ht (hih b L r M hg H locs cells slots ls hI hl)
    · rw [zv_ref (by omega) (zble_f g)]
      exact lv_ifnull hx hb hd (hih _ L r M hg H locs cells slots ls hI hl)
  · rw [show Nat.beq 1 0 = false from rfl, cond_false] at hg
    rcases zgi hg with ⟨g, hg⟩ | ⟨g, hg⟩
    · rw [zv_null (zble_t g)]
      exact lv_ifnonnullN hx hb hd (hih _ L r M hg H locs cells slots ls hI hl)
    · rw [zv_ref (by omega) (zble_f g)]
      exact lv_ifnonnull hx hb hd ht (hih b L r M hg H locs cells slots ls hI hl)
theorem zHR_b0 {H : Heap} {h : zH} {len : Nat} (hh : zHR D ρ b0 B0 s H h len) : b0 < B0 := by
  obtain ⟨ws, tys, h1, h2, h3, h4, h5, h6, ⟨g1, g2, -⟩, -⟩ := hh
  exact g2
theorem zo_acmp (hx : p.tables.exec = Jvm.exec) (hb : c.code = cc) (h0 : ∀ o, P o → o.1 = 1) {ih : zK} (hih : zIh p l e R s m args below meth c Q nL D ρ b0 B0 mc ms P ih) {pc L a b nx : Nat} {st : List Nat} {M : zM}
    (hd : nx = pc + 3 ∧ ∃ off : Int, ((a = 0 ∧ decode cc pc = .ok (.if_acmp .eq off, 3)) ∨ (a = 1 ∧ decode cc pc = .ok (.if_acmp .ne off, 3))) ∧ (pc : Int) + off = (b : Int)) (hg : zgood P (z_acmp ih pc L st M a b nx)) : zWk p l e R s m args below meth c Q nL D ρ b0 B0 mc ms P pc L st M := by
  intro H locs cells slots ls hI hl
  unfold z_acmp at hg
  obtain ⟨y, r1, hst, hg1⟩ := zgl h0 hg
  subst hst
  clear hg
  have hg := hg1
  clear hg1
  obtain ⟨x, r, hst, hg1⟩ := zgl h0 hg
  subst hst
  clear hg
  have hg := hg1
  clear hg1
  unfold z_acmp1 at hg
  obtain ⟨kx, hg⟩ := zgc h0 hg
  obtain ⟨ky, hg⟩ := zgc h0 hg
  obtain ⟨tx, hg⟩ := zgc h0 hg
  obtain ⟨ty, hg⟩ := zgc h0 hg
  have kx := zbeq_t kx
  have ky := zbeq_t ky
  have tx := zble_t tx
  have ty := zble_t ty
  have hbB := zHR_b0 hI.2.1
  rw [List.map_cons, List.map_cons, zv_r (by omega), zv_r (by omega)]
  have inj : zvr (zα b0 B0) x = zvr (zα b0 B0) y → x = y := by
    intro q
    rw [zkd_eq] at kx ky
    unfold zvr at q
    split at q <;> split at q
    · have := zα_inj hbB (Option.some.inj q)
      omega
    · cases q
    · cases q
    · omega
  obtain ⟨rfl, off, hd, ht⟩ := hd
  rcases hd with ⟨rfl, hd⟩ | ⟨rfl, hd⟩
  · rw [show Nat.beq 0 0 = true from rfl, cond_true] at hg
    refine lv_acmp_eq hx hb hd ht (fun q => ?_) (fun q => ?_)
    · rcases zgi hg with ⟨g, hg⟩ | ⟨g, hg⟩
      · exact hih b L r M hg H locs cells slots ls hI hl
      · exact absurd (inj q) (zbeq_f g)
    · rcases zgi hg with ⟨g, hg⟩ | ⟨g, hg⟩
      · exact absurd (by rw [zbeq_t g]) q
      · exact hih _ L r M hg H locs cells slots ls hI hl
  · rw [show Nat.beq 1 0 = false from rfl, cond_false] at hg
    refine lv_acmp_ne hx hb hd ht (fun q => ?_) (fun q => ?_)
    · rcases zgi hg with ⟨g, hg⟩ | ⟨g, hg⟩
      · exact absurd (by rw [zbeq_t g]) q
      · exact hih b L r M hg H locs cells slots ls hI hl
    · rcases zgi hg with ⟨g, hg⟩ | ⟨g, hg⟩
      · exact hih _ L r M hg H locs cells slots ls hI hl
      · exact absurd (inj q) (zbeq_f g)
/-- of a switch by a table -/
def zd_tab (cc : ByteArray) (pc : Nat) (t : Nat × List Nat × Nat) : Prop := ∃ (dflt lo hi : Int) (offs : Array Int) (len : Nat), decode cc pc = .ok (.tableswitch dflt lo hi offs, len) ∧ (t.1 : Int) = lo + 9223372036854775808 ∧ 1 ≤ t.1 ∧ hi = lo + (offs.size : Int) - 1 ∧
  (pc : Int) + dflt = (t.2.2 : Int) ∧ t.2.1.length = offs.size ∧ ∀ i, i < offs.size → ∃ off : Int, offs[i]? = some off ∧ (pc : Int) + off = (t.2.1.getD i t.2.2 : Nat)
theorem zw_tab (hx : p.tables.exec = Jvm.exec) (hb : c.code = cc) {pc bx : Nat} {t : Nat × List Nat × Nat} (hd : zd_tab cc pc t) {x : Int32} (hbx : (bx : Int) = x.toInt + 9223372036854775808) {H : Heap} {locs : List Loc} {cells slots : Nat} {ls : Array Slot} {rest : List Value}
    (kk : W p l e R s m args below meth c H locs cells slots Q (F0 m (if t.1 ≤ bx then t.2.1.getD (bx - t.1) t.2.2 else t.2.2) ls rest)) : W p l e R s m args below meth c H locs cells slots Q (F0 m pc ls (.int x :: rest)) := by
  obtain ⟨dflt, lo, hi, offs, len, hd, e1, e2, e3, e4, e5, e6⟩ := hd
  by_cases g : t.1 ≤ bx
  · rw [if_pos g] at kk
    by_cases g2 : bx - t.1 < offs.size
    · obtain ⟨off, h1, h2⟩ := e6 _ g2
      refine lv_tableIn hx hb hd (by omega) (by omega) (off := off) ?_ h2 kk
      rw [show (x.toInt - lo).toNat = bx - t.1 by omega]
      exact h1
    · rw [List.getD_eq_getElem?_getD, List.getElem?_eq_none (by omega)] at kk
      exact lv_tableOut hx hb hd (Or.inr (by omega)) e4 kk
  · rw [if_neg g] at kk
    exact lv_tableOut hx hb hd (Or.inl (by omega)) e4 kk
theorem zo_tab (hx : p.tables.exec = Jvm.exec) (hb : c.code = cc) (h0 : ∀ o, P o → o.1 = 1) {ih : zK} (hih : zIh p l e R s m args below meth c Q nL D ρ b0 B0 mc ms P ih) {T : List (Nat × List Nat × Nat)} {pc L a b nx : Nat} {st : List Nat} {M : zM}
    (hd : zd_tab cc pc (T.getD a (0, [], 0))) (hg : zgood P (z_tab T ih pc L st M a b nx)) : zWk p l e R s m args below meth c Q nL D ρ b0 B0 mc ms P pc L st M := by
  intro H locs cells slots ls hI hl
  unfold z_tab at hg
  obtain ⟨x, r, hst, hg1⟩ := zgl h0 hg
  subst hst
  clear hg
  have hg := hg1
  clear hg1
  obtain ⟨kx, hg⟩ := zgc h0 hg
  have kx := zbeq_t kx
  rw [frc_eq, zget_eq] at hg
  generalize T.getD a (0, [], 0) = t at hd hg
  obtain ⟨r1, r2⟩ := zrs_i hI.1 kx
  rw [List.map_cons, zv_i kx, ← r1]
  have again : ∀ S1, zsat ρ S1 → zgood P (ih pc L (x :: r) (S1, M.2)) → W p l e R s m args below meth c H locs cells slots Q (F0 m pc ls (.int (zvi ρ (zrs M.1 x)) :: r.map (zv ρ (zα b0 B0)))) := by
    intro S1 hs1 hg
    have kk := hih pc L _ _ hg H locs cells slots ls (hI.S hs1) hl
    rw [List.map_cons, zv_i kx, ← r1] at kk
    exact kk
  unfold z_tab1 at hg
  rcases zgi hg with ⟨g1, hg⟩ | ⟨-, hg⟩
  · have g1 := zble_t g1
    refine zw_tab hx hb hd (zbi_i g1) ?_
    rcases zgi hg with ⟨g2, hg⟩ | ⟨g2, hg⟩
    · rw [if_pos (zble_t g2)]
      rw [zget_eq, zsub] at hg
      exact hih _ L r M hg H locs cells slots ls hI hl
    · rw [if_neg (Nat.not_le.mpr (zble_f g2))]
      exact hih _ L r M hg H locs cells slots ls hI hl
  · obtain ⟨sy, hg⟩ := zgc h0 hg
    unfold z_tab0 at hg
    obtain ⟨hin, hg⟩ := zgc h0 hg
    have hv := zsym_i hI.1 sy r2 hin
    obtain ⟨i1, i2, i3⟩ := zbv_iv hI.1 (zid (zrs M.1 x))
    rcases zgi hg with ⟨-, hg⟩ | ⟨-, hg⟩
    · obtain ⟨S1, hs1, hg⟩ := zpcs_in hI.1 _ hg i1 (by rw [zsuc, zsub]; omega)
      exact again S1 hs1 hg
    · obtain ⟨h64, hg⟩ := zgc h0 hg
      have h64 := zble_t h64
      rw [zlen_eq] at h64
      obtain ⟨hA, hg⟩ := zgood_app hg
      obtain ⟨hB, hC⟩ := zgood_app hg
      have hd2 := hd
      obtain ⟨dflt, lo, hi, offs, len, -, -, e2, -, -, e5, -⟩ := hd2
      rcases Nat.lt_or_ge (zbv ρ (zid (zrs M.1 x))) t.1 with q | q
      · obtain ⟨S1, hs1, hA⟩ := zpc_in hA hI.1 i1 (zmn_ge i2 (by rw [zpre]; omega))
        refine zw_tab hx hb hd hv ?_
        rw [if_neg (by omega)]
        exact hih _ L r _ hA H locs cells slots ls (hI.S hs1) hl
      · rcases Nat.lt_or_ge (zbv ρ (zid (zrs M.1 x))) (t.1 + 64) with q2 | q2
        · obtain ⟨S1, hs1, hB⟩ := zpc_in hB hI.1 (zmx_le i1 q) (zmn_ge i2 (by rw [zadd]; omega))
          exact again S1 hs1 hB
        · obtain ⟨S1, hs1, hC⟩ := zpc_in hC hI.1 (zmx_le i1 (by rw [zadd]; omega)) i2
          refine zw_tab hx hb hd hv ?_
          rw [if_pos q, List.getD_eq_getElem?_getD, List.getElem?_eq_none (by omega)]
          exact hih _ L r _ hC H locs cells slots ls (hI.S hs1) hl
/-- of a switch by keys -/
def zd_lku (cc : ByteArray) (pc : Nat) (t : List (Nat × Nat) × Nat) : Prop := ∃ (dflt : Int) (ps : Array (Int × Int)) (len : Nat), decode cc pc = .ok (.lookupswitch dflt ps, len) ∧ (ps.toList.zip (ps.toList.drop 1)).all (fun (a, next) => a.1 < next.1) = true ∧
  (pc : Int) + dflt = (t.2 : Int) ∧ ps.toList = t.1.map (fun q => ((q.1 : Int) - 9223372036854775808, (q.2 : Int) - (pc : Int)))
theorem zlk_ok {pc : Nat} {dflt : Int} {d bx : Nat} {x : Int} (hbx : (bx : Int) = x + 9223372036854775808) (hdf : (pc : Int) + dflt = (d : Int)) : ∀ (t : List (Nat × Nat)), (pc : Int) + Op.lookupswitch.offset (t.map (fun q => ((q.1 : Int) - 9223372036854775808, (q.2 : Int) - (pc : Int)))) dflt x = (zlk bx d t : Nat)
  | [] => hdf
  | q :: t => by
    rw [List.map_cons, Op.lookupswitch.offset_cons]
    have key : zlk bx d (q :: t) = cond (Nat.beq q.1 bx) q.2 (zlk bx d t) := rfl
    rw [key]
    cases h : Nat.beq q.1 bx with
    | true =>
      have h := zbeq_t h
      rw [if_pos (by omega), cond_true]
      omega
    | false =>
      have h := zbeq_f h
      rw [if_neg (by omega), cond_false]
      exact zlk_ok hbx hdf t
theorem zo_lku (hx : p.tables.exec = Jvm.exec) (hb : c.code = cc) (h0 : ∀ o, P o → o.1 = 1) {ih : zK} (hih : zIh p l e R s m args below meth c Q nL D ρ b0 B0 mc ms P ih) {T : List (List (Nat × Nat) × Nat)} {pc L a b nx : Nat} {st : List Nat} {M : zM}
    (hd : zd_lku cc pc (T.getD a ([], 0))) (hg : zgood P (z_lku T ih pc L st M a b nx)) : zWk p l e R s m args below meth c Q nL D ρ b0 B0 mc ms P pc L st M := by
  intro H locs cells slots ls hI hl
  unfold z_lku at hg
  obtain ⟨x, r, hst, hg1⟩ := zgl h0 hg
  subst hst
  clear hg
  have hg := hg1
  clear hg1
  obtain ⟨kx, hg⟩ := zgc h0 hg
  have kx := zbeq_t kx
  rw [frc_eq, zget_eq] at hg
  generalize T.getD a ([], 0) = t at hd hg
  obtain ⟨r1, r2⟩ := zrs_i hI.1 kx
  rw [List.map_cons, zv_i kx, ← r1]
  unfold z_lku1 at hg
  rcases zgi hg with ⟨g1, hg⟩ | ⟨-, hg⟩
  · have g1 := zble_t g1
    rw [frc_eq] at hg
    obtain ⟨dflt, ps, len, hd, hs, e1, e2⟩ := hd
    refine lv_lookup hx hb hd hs rfl ?_ (hih _ L r M hg H locs cells slots ls hI hl)
    rw [e2]
    exact zlk_ok (zbi_i g1) e1 t.1
  · obtain ⟨sy, hg⟩ := zgc h0 hg
    obtain ⟨S1, hs1, hg⟩ := zsp_in h0 hg hI.1
    have kk := hih pc L _ _ hg H locs cells slots ls (hI.S hs1) hl
    rw [List.map_cons, zv_i kx, ← r1] at kk
    exact kk
end ZOP5
