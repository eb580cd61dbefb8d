/-! Branches, longs and the like, against the machine -/
section ZOP4
variable {p : Program} {l : Launch} {e : Env} {R : Room} {s : State} {m : MethodId} {args : Array Value} {below : List Frame} {meth : Method} {c : Code} {Q : State → Prop}
variable {cc : ByteArray} {nL : Nat} {D : va_G} {ρ : Nat → Int} {b0 B0 mc ms : Nat} {P : zO → Prop}
variable {H : Heap} {locs : List Loc} {cells slots : Nat} {ls : Array Slot} {rest : List Value} {pc tgt : Nat}
def zd_icmp (cc : ByteArray) (pc a : Nat) (off : Int) : Prop :=
  (a = 0 ∧ decode cc pc = .ok (.if_icmp .eq off, 3)) ∨
  (a = 1 ∧ decode cc pc = .ok (.if_icmp .ne off, 3)) ∨
  (a = 2 ∧ decode cc pc = .ok (.if_icmp .lt off, 3)) ∨
  (a = 3 ∧ decode cc pc = .ok (.if_icmp .ge off, 3)) ∨
  (a = 4 ∧ decode cc pc = .ok (.if_icmp .gt off, 3)) ∨
  (a = 5 ∧ decode cc pc = .ok (.if_icmp .le off, 3))
def zd_if (cc : ByteArray) (pc a : Nat) (off : Int) : Prop :=
  (a = 0 ∧ decode cc pc = .ok (.ifCond .eq off, 3)) ∨
  (a = 1 ∧ decode cc pc = .ok (.ifCond .ne off, 3)) ∨
  (a = 2 ∧ decode cc pc = .ok (.ifCond .lt off, 3)) ∨
  (a = 3 ∧ decode cc pc = .ok (.ifCond .ge off, 3)) ∨
  (a = 4 ∧ decode cc pc = .ok (.ifCond .gt off, 3)) ∨
  (a = 5 ∧ decode cc pc = .ok (.ifCond .le off, 3))
theorem zw_icmp (hx : p.tables.exec = Jvm.exec) (hb : c.code = cc) {a : Nat} {off : Int} {x y : Int32} (hd : zd_icmp cc pc a off) (ht : (pc : Int) + off = (tgt : Int))
    (kt : zcp a x.toInt y.toInt → W p l e R s m args below meth c H locs cells slots Q (F0 m tgt ls rest)) (kf : ¬ zcp a x.toInt y.toInt → W p l e R s m args below meth c H locs cells slots Q (F0 m (pc + 3) ls rest)) :
    W p l e R s m args below meth c H locs cells slots Q (F0 m pc ls (.int y :: .int x :: rest)) := by
  rcases hd with ⟨rfl, hd⟩ | ⟨rfl, hd⟩ | ⟨rfl, hd⟩ | ⟨rfl, hd⟩ | ⟨rfl, hd⟩ | ⟨rfl, hd⟩
  · have e : x = y ↔ zcp 0 x.toInt y.toInt := Int32.toInt_inj.symm
    exact lv_icmp_eq hx hb hd ht (fun h => kt (e.mp h)) (fun h => kf (fun q => h (e.mpr q)))
  · have e : ¬ x = y ↔ zcp 1 x.toInt y.toInt := not_congr Int32.toInt_inj.symm
    exact lv_icmp_ne hx hb hd ht (fun h => kt (e.mp h)) (fun h => kf (fun q => (e.mpr q) h))
  · have e : x < y ↔ zcp 2 x.toInt y.toInt := Int32.lt_iff_toInt_lt
    exact lv_icmp_lt hx hb hd ht (fun h => kt (e.mp h)) (fun h => kf (fun q => h (e.mpr q)))
  · have e : y ≤ x ↔ zcp 3 x.toInt y.toInt := Int32.le_iff_toInt_le
    exact lv_icmp_ge hx hb hd ht (fun h => kt (e.mp h)) (fun h => kf (fun q => h (e.mpr q)))
  · have e : y < x ↔ zcp 4 x.toInt y.toInt := Int32.lt_iff_toInt_lt
    exact lv_icmp_gt hx hb hd ht (fun h => kt (e.mp h)) (fun h => kf (fun q => h (e.mpr q)))
  · have e : x ≤ y ↔ zcp 5 x.toInt y.toInt := Int32.le_iff_toInt_le
    exact lv_icmp_le hx hb hd ht (fun h => kt (e.mp h)) (fun h => kf (fun q => h (e.mpr q)))
theorem zw_if (hx : p.tables.exec = Jvm.exec) (hb : c.code = cc) {a : Nat} {off : Int} {x : Int32} (hd : zd_if cc pc a off) (ht : (pc : Int) + off = (tgt : Int))
    (kt : zcp a x.toInt (0 : Int32).toInt → W p l e R s m args below meth c H locs cells slots Q (F0 m tgt ls rest)) (kf : ¬ zcp a x.toInt (0 : Int32).toInt → W p l e R s m args below meth c H locs cells slots Q (F0 m (pc + 3) ls rest)) :
    W p l e R s m args below meth c H locs cells slots Q (F0 m pc ls (.int x :: rest)) := by
  rcases hd with ⟨rfl, hd⟩ | ⟨rfl, hd⟩ | ⟨rfl, hd⟩ | ⟨rfl, hd⟩ | ⟨rfl, hd⟩ | ⟨rfl, hd⟩
  · have e : x = 0 ↔ zcp 0 x.toInt (0 : Int32).toInt := (show x = 0 ↔ x.toInt = (0 : Int32).toInt from Int32.toInt_inj.symm)
    exact lv_if_eq hx hb hd ht (fun h => kt (e.mp h)) (fun h => kf (fun q => h (e.mpr q)))
  · have e : ¬ x = 0 ↔ zcp 1 x.toInt (0 : Int32).toInt := not_congr (show x = 0 ↔ x.toInt = (0 : Int32).toInt from Int32.toInt_inj.symm)
    exact lv_if_ne hx hb hd ht (fun h => kt (e.mp h)) (fun h => kf (fun q => (e.mpr q) h))
  · have e : x < 0 ↔ zcp 2 x.toInt (0 : Int32).toInt := Int32.lt_iff_toInt_lt
    exact lv_if_lt hx hb hd ht (fun h => kt (e.mp h)) (fun h => kf (fun q => h (e.mpr q)))
  · have e : 0 ≤ x ↔ zcp 3 x.toInt (0 : Int32).toInt := Int32.le_iff_toInt_le
    exact lv_if_ge hx hb hd ht (fun h => kt (e.mp h)) (fun h => kf (fun q => h (e.mpr q)))
  · have e : 0 < x ↔ zcp 4 x.toInt (0 : Int32).toInt := Int32.lt_iff_toInt_lt
    exact lv_if_gt hx hb hd ht (fun h => kt (e.mp h)) (fun h => kf (fun q => h (e.mpr q)))
  · have e : x ≤ 0 ↔ zcp 5 x.toInt (0 : Int32).toInt := Int32.le_iff_toInt_le
    exact lv_if_le hx hb hd ht (fun h => kt (e.mp h)) (fun h => kf (fun q => h (e.mpr q)))
theorem zw_lcmp (hx : p.tables.exec = Jvm.exec) (hb : c.code = cc) {a : Nat} {off : Int} {x y : Int64} (hd0 : decode cc pc = .ok (.lcmp, 1)) (hd : zd_if cc (pc + 1) a off) (ht : ((pc + 1 : Nat) : Int) + off = (tgt : Int))
    (kt : zcp a x.toInt y.toInt → W p l e R s m args below meth c H locs cells slots Q (F0 m tgt ls rest)) (kf : ¬ zcp a x.toInt y.toInt → W p l e R s m args below meth c H locs cells slots Q (F0 m (pc + 1 + 3) ls rest)) :
    W p l e R s m args below meth c H locs cells slots Q (F0 m pc ls (.long y :: .long x :: rest)) := by
  refine W.lcmp hx hb hd0 ?_
  rcases hd with ⟨rfl, hd⟩ | ⟨rfl, hd⟩ | ⟨rfl, hd⟩ | ⟨rfl, hd⟩ | ⟨rfl, hd⟩ | ⟨rfl, hd⟩
  · have e : x = y ↔ zcp 0 x.toInt y.toInt := Int64.toInt_inj.symm
    exact lv_if_eq hx hb hd ht (fun h => kt (e.mp ((lg_cmp_eq x y).mp h))) (fun h => kf (fun q => h ((lg_cmp_eq x y).mpr (e.mpr q))))
  · have e : ¬ x = y ↔ zcp 1 x.toInt y.toInt := not_congr Int64.toInt_inj.symm
    exact lv_if_ne hx hb hd ht (fun h => kt (e.mp (fun q => h ((lg_cmp_eq x y).mpr q)))) (fun h => kf (fun q => (e.mpr q) ((lg_cmp_eq x y).mp h)))
  · have e : x < y ↔ zcp 2 x.toInt y.toInt := Int64.lt_iff_toInt_lt
    exact lv_if_lt hx hb hd ht (fun h => kt (e.mp ((lg_cmp_lt x y).mp h))) (fun h => kf (fun q => h ((lg_cmp_lt x y).mpr (e.mpr q))))
  · have e : y ≤ x ↔ zcp 3 x.toInt y.toInt := Int64.le_iff_toInt_le
    exact lv_if_ge hx hb hd ht (fun h => kt (e.mp ((lg_cmp_ge x y).mp h))) (fun h => kf (fun q => h ((lg_cmp_ge x y).mpr (e.mpr q))))
  · have e : y < x ↔ zcp 4 x.toInt y.toInt := Int64.lt_iff_toInt_lt
    exact lv_if_gt hx hb hd ht (fun h => kt (e.mp ((lg_cmp_gt x y).mp h))) (fun h => kf (fun q => h ((lg_cmp_gt x y).mpr (e.mpr q))))
  · have e : x ≤ y ↔ zcp 5 x.toInt y.toInt := Int64.le_iff_toInt_le
    exact lv_if_le hx hb hd ht (fun h => kt (e.mp ((lg_cmp_le x y).mp h))) (fun h => kf (fun q => h ((lg_cmp_le x y).mpr (e.mpr q))))
theorem zd_if_le {pc a : Nat} {off : Int} (h : zd_if cc pc a off) : a ≤ 5 := by
  rcases h with ⟨h, -⟩ | ⟨h, -⟩ | ⟨h, -⟩ | ⟨h, -⟩ | ⟨h, -⟩ | ⟨h, -⟩ <;> omega
theorem zd_icmp_le {pc a : Nat} {off : Int} (h : zd_icmp cc pc a off) : a ≤ 5 := by
  rcases h with ⟨h, -⟩ | ⟨h, -⟩ | ⟨h, -⟩ | ⟨h, -⟩ | ⟨h, -⟩ | ⟨h, -⟩ <;> omega
/-- the slow way of a comparison -/
theorem z_cmpS_ok (h0 : ∀ o, P o → o.1 = 1) {ih : zK} {pc L x y a b nx kd : Nat} {r st : List Nat} {M : zM} (hkd : kd ≤ 1) (ha : a ≤ 5) (hs : zsat ρ M.1) (hg : zgood P (z_cmpS ih pc L x y r st M a b nx kd)) :
    zkd x = kd ∧ zkd y = kd ∧ ((∃ S1, zsat ρ S1 ∧ zgood P (ih pc L st (S1, M.2))) ∨ (zcp a (zvI ρ kd x) (zvI ρ kd y) ∧ ∃ S1, zsat ρ S1 ∧ zgood P (ih b L r (S1, M.2))) ∨ (¬ zcp a (zvI ρ kd x) (zvI ρ kd y) ∧ ∃ S1, zsat ρ S1 ∧ zgood P (ih nx L r (S1, M.2)))) := by
  unfold z_cmpS at hg
  obtain ⟨kx, hg⟩ := zgc h0 hg
  obtain ⟨ky, hg⟩ := zgc h0 hg
  have kx := zbeq_t kx
  have ky := zbeq_t ky
  rw [frc_eq, frc_eq] at hg
  obtain ⟨rx1, rx2⟩ := zrs_ok (α := zα 0 0) hs x
  obtain ⟨ry1, ry2⟩ := zrs_ok (α := zα 0 0) hs y
  have val : ∀ z, zkd z = kd → zkd (zrs M.1 z) = zkd z → zv ρ (zα 0 0) (zrs M.1 z) = zv ρ (zα 0 0) z → zvI ρ kd (zrs M.1 z) = zvI ρ kd z := by
    intro z h1 h2 h3
    unfold zvI
    rcases (show kd = 0 ∨ kd = 1 by omega) with rfl | rfl
    · rw [if_pos rfl, if_pos rfl]
      rw [zv_i h1, zv_i (by rw [h2]; exact h1)] at h3
      rw [Value.int.inj h3]
    · rw [if_neg (by decide), if_neg (by decide)]
      rw [zv_l h1, zv_l (by rw [h2]; exact h1)] at h3
      rw [Value.long.inj h3]
  refine ⟨kx, ky, ?_⟩
  have h := zbr_ok h0 hs hkd ha (by rw [rx2]; exact kx) (by rw [ry2]; exact ky) hg
  rw [val x kx rx2 rx1, val y ky ry2 ry1] at h
  rcases h with h | ⟨h1, h2⟩ | ⟨h1, h2⟩
  · exact Or.inl h
  · exact Or.inr (Or.inl ⟨h1, h2⟩)
  · exact Or.inr (Or.inr ⟨h1, h2⟩)
theorem z_cmpF_ok (h0 : ∀ o, P o → o.1 = 1) {ih : zK} {pc L x y a b nx : Nat} {r st : List Nat} {M : zM} (ha : a ≤ 5) (hs : zsat ρ M.1) (hg : zgood P (z_cmpF ih pc L x y r st M a b nx)) :
    zkd x = 0 ∧ zkd y = 0 ∧ ((∃ S1, zsat ρ S1 ∧ zgood P (ih pc L st (S1, M.2))) ∨ (zcp a (zvi ρ x).toInt (zvi ρ y).toInt ∧ ∃ S1, zsat ρ S1 ∧ zgood P (ih b L r (S1, M.2))) ∨ (¬ zcp a (zvi ρ x).toInt (zvi ρ y).toInt ∧ ∃ S1, zsat ρ S1 ∧ zgood P (ih nx L r (S1, M.2)))) := by
  have slow : zgood P (z_cmpS ih pc L x y r st M a b nx 0) → _ := fun hg => z_cmpS_ok (ρ := ρ) h0 (by decide) ha hs hg
  unfold z_cmpF at hg
  rcases zgi hg with ⟨g1, hg⟩ | ⟨-, hg⟩
  · rcases zgi hg with ⟨g2, hg⟩ | ⟨-, hg⟩
    · have g1 := zble_t g1
      have g2 := zble_t g2
      refine ⟨by rw [zkd_eq]; omega, by rw [zkd_eq]; omega, Or.inr ?_⟩
      have e := zci_iff a (zb32_ok (ρ := ρ) g1) (zb32_ok (ρ := ρ) g2)
      rcases zgi hg with ⟨b1, hg⟩ | ⟨b1, hg⟩
      · exact Or.inl ⟨e.mp b1, M.1, hs, hg⟩
      · exact Or.inr ⟨fun q => (by rw [e.mpr q] at b1; cases b1), M.1, hs, hg⟩
    · exact slow hg
  · exact slow hg
theorem zo_icmp (hx : p.tables.exec = Jvm.exec) (hb : c.code = cc) (h0 : ∀ o, P o → o.1 = 1) {ih : zK} (hih : zIh p l e R s m args below meth c Q nL D ρ b0 B0 mc ms P ih) {pc L a b nx : Nat} {st : List Nat} {M : zM}
    (hd : nx = pc + 3 ∧ ∃ off : Int, zd_icmp cc pc a off ∧ (pc : Int) + off = (b : Int)) (hg : zgood P (z_icmp ih pc L st M a b nx)) : zWk p l e R s m args below meth c Q nL D ρ b0 B0 mc ms P pc L st M := by
  intro H locs cells slots ls hI hl
  unfold z_icmp at hg
  obtain ⟨y, r1, rfl, hg⟩ := zgl h0 hg
  obtain ⟨x, r, rfl, hg⟩ := zgl h0 hg
  obtain ⟨rfl, off, hd, ht⟩ := hd
  obtain ⟨kx, ky, hg⟩ := z_cmpF_ok h0 (zd_icmp_le hd) hI.1 hg
  rcases hg with ⟨S1, hs1, hg⟩ | hg
  · exact hih pc L _ _ hg H locs cells slots ls (hI.S hs1) hl
  · rw [List.map_cons, List.map_cons, zv_i kx, zv_i ky]
    refine zw_icmp hx hb hd ht (fun q => ?_) (fun q => ?_)
    · rcases hg with ⟨-, S1, hs1, hg⟩ | ⟨q2, -⟩
      · exact hih b L r _ hg H locs cells slots ls (hI.S hs1) hl
      · exact absurd q q2
    · rcases hg with ⟨q2, -⟩ | ⟨-, S1, hs1, hg⟩
      · exact absurd q2 q
      · exact hih _ L r _ hg H locs cells slots ls (hI.S hs1) hl
theorem zo_if (hx : p.tables.exec = Jvm.exec) (hb : c.code = cc) (h0 : ∀ o, P o → o.1 = 1) {ih : zK} (hih : zIh p l e R s m args below meth c Q nL D ρ b0 B0 mc ms P ih) {pc L a b nx : Nat} {st : List Nat} {M : zM}
    (hd : nx = pc + 3 ∧ ∃ off : Int, zd_if cc pc a off ∧ (pc : Int) + off = (b : Int)) (hg : zgood P (z_if ih pc L st M a b nx)) : zWk p l e R s m args below meth c Q nL D ρ b0 B0 mc ms P pc L st M := by
  intro H locs cells slots ls hI hl
  unfold z_if at hg
  obtain ⟨x, r, rfl, hg⟩ := zgl h0 hg
  obtain ⟨rfl, off, hd, ht⟩ := hd
  obtain ⟨kx, ky, hg⟩ := z_cmpF_ok h0 (zd_if_le hd) hI.1 hg
  have e0 : zvi ρ 0 = 0 := by rw [zvi_lo (by decide)]; rfl
  rw [e0] at hg
  rcases hg with ⟨S1, hs1, hg⟩ | hg
  · exact hih pc L _ _ hg H locs cells slots ls (hI.S hs1) hl
  · rw [List.map_cons, zv_i kx]
    refine zw_if hx hb hd ht (fun q => ?_) (fun q => ?_)
    · rcases hg with ⟨-, S1, hs1, hg⟩ | ⟨q2, -⟩
      · exact hih b L r _ hg H locs cells slots ls (hI.S hs1) hl
      · exact absurd q q2
    · rcases hg with ⟨q2, -⟩ | ⟨-, S1, hs1, hg⟩
      · exact absurd q2 q
      · exact hih _ L r _ hg H locs cells slots ls (hI.S hs1) hl
theorem zo_lcmp (hx : p.tables.exec = Jvm.exec) (hb : c.code = cc) (h0 : ∀ o, P o → o.1 = 1) {ih : zK} (hih : zIh p l e R s m args below meth c Q nL D ρ b0 B0 mc ms P ih) {pc L a b nx : Nat} {st : List Nat} {M : zM}
    (hd : decode cc pc = .ok (.lcmp, 1) ∧ nx = pc + 1 + 3 ∧ ∃ off : Int, zd_if cc (pc + 1) a off ∧ ((pc + 1 : Nat) : Int) + off = (b : Int)) (hg : zgood P (z_lcmp ih pc L st M a b nx)) : zWk p l e R s m args below meth c Q nL D ρ b0 B0 mc ms P pc L st M := by
  intro H locs cells slots ls hI hl
  unfold z_lcmp at hg
  obtain ⟨y, r1, rfl, hg⟩ := zgl h0 hg
  obtain ⟨x, r, rfl, hg⟩ := zgl h0 hg
  obtain ⟨hd0, rfl, off, hd, ht⟩ := hd
  obtain ⟨kx, ky, hg⟩ := z_cmpS_ok (ρ := ρ) h0 (by decide) (zd_if_le hd) hI.1 hg
  unfold zvI at hg
  rw [if_neg (by decide), if_neg (by decide)] at hg
  rcases hg with ⟨S1, hs1, hg⟩ | hg
  · exact hih pc L _ _ hg H locs cells slots ls (hI.S hs1) hl
  · rw [List.map_cons, List.map_cons, zv_l kx, zv_l ky]
    refine zw_lcmp hx hb hd0 hd ht (fun q => ?_) (fun q => ?_)
    · rcases hg with ⟨-, S1, hs1, hg⟩ | ⟨q2, -⟩
      · exact hih b L r _ hg H locs cells slots ls (hI.S hs1) hl
      · exact absurd q q2
    · rcases hg with ⟨q2, -⟩ | ⟨-, S1, hs1, hg⟩
      · exact absurd q2 q
      · exact hih _ L r _ hg H locs cells slots ls (hI.S hs1) hl
-- longs
def zd_lb (cc : ByteArray) (pc w nx : Nat) : Prop := nx = pc + 1 ∧
  ((w = 0 ∧ decode cc pc = .ok (.ladd, 1)) ∨ (w = 1 ∧ decode cc pc = .ok (.lsub, 1)) ∨ (w = 3 ∧ decode cc pc = .ok (.land, 1)) ∨ (w = 4 ∧ decode cc pc = .ok (.lor, 1)))
theorem zrs_l {S : zS} (hs : zsat ρ S) {x : Nat} (kx : zkd x = 1) : zvl ρ (zrs S x) = zvl ρ x ∧ zkd (zrs S x) = 1 := by
  obtain ⟨r1, r2⟩ := zrs_ok (α := zα 0 0) hs x
  rw [zv_l kx, zv_l (by rw [r2]; exact kx)] at r1
  exact ⟨Value.long.inj r1, by rw [r2]; exact kx⟩
theorem zrs_i {S : zS} (hs : zsat ρ S) {x : Nat} (kx : zkd x = 0) : zvi ρ (zrs S x) = zvi ρ x ∧ zkd (zrs S x) = 0 := by
  obtain ⟨r1, r2⟩ := zrs_ok (α := zα 0 0) hs x
  rw [zv_i kx, zv_i (by rw [r2]; exact kx)] at r1
  exact ⟨Value.int.inj r1, by rw [r2]; exact kx⟩
theorem zo_lb (hx : p.tables.exec = Jvm.exec) (hb : c.code = cc) (h0 : ∀ o, P o → o.1 = 1) {Df : zD} (hDf : zdOK ρ Df) {ih : zK} (hih : zIh p l e R s m args below meth c Q nL D ρ b0 B0 mc ms P ih) {pc L w b nx : Nat} {st : List Nat} {M : zM}
    (hd : zd_lb cc pc w nx) (hg : zgood P (z_lb Df ih pc L st M w b nx)) : zWk p l e R s m args below meth c Q nL D ρ b0 B0 mc ms P pc L st M := by
  intro H locs cells slots ls hI hl
  unfold z_lb at hg
  obtain ⟨y, r1, rfl, hg⟩ := zgl h0 hg
  obtain ⟨x, r, rfl, hg⟩ := zgl h0 hg
  unfold z_lb2 at hg
  obtain ⟨kx, hg⟩ := zgc h0 hg
  obtain ⟨ky, hg⟩ := zgc h0 hg
  have kx := zbeq_t kx
  have ky := zbeq_t ky
  rw [frc_eq, frc_eq] at hg
  obtain ⟨rx3, rx2⟩ := zrs_l hI.1 kx
  obtain ⟨ry3, ry2⟩ := zrs_l hI.1 ky
  have op2 : zgood P (z_op2 Df ih pc L (zrs M.1 x) (zrs M.1 y) r (y :: x :: r) M (w + 20) 1 nx) → W p l e R s m args below meth c H locs cells slots Q (F0 m pc ls ((y :: x :: r).map (zv ρ (zα b0 B0)))) := by
    intro hg
    rcases z_op2_ok h0 (by decide) hI.1 hg with ⟨v, hv, hvk, hg⟩ | ⟨S1, hs1, hg⟩
    · have hq := hDf _ hv
      have kk := hih nx L _ M hg H locs cells slots ls hI hl
      rw [List.map_cons, zv_l hvk] at kk
      rw [List.map_cons, List.map_cons, zv_l kx, zv_l ky]
      obtain ⟨-, -, -, -, -, -, -, -, q0, q1, q3, q4, -⟩ := hq
      obtain ⟨rfl, hd⟩ := hd
      dsimp only at q0 q1 q3 q4
      rw [rx3, ry3] at q0 q1 q3 q4
      rcases hd with ⟨rfl, hd⟩ | ⟨rfl, hd⟩ | ⟨rfl, hd⟩ | ⟨rfl, hd⟩
      · rw [q0 rfl] at kk; exact lv_ladd hx hb hd kk
      · rw [q1 rfl] at kk; exact lv_lsub hx hb hd kk
      · rw [q3 rfl] at kk; exact lv_land hx hb hd kk
      · rw [q4 rfl] at kk; exact lv_lor hx hb hd kk
    · exact hih pc L _ _ hg H locs cells slots ls (hI.S hs1) hl
  unfold z_lb1 at hg
  rw [zadd w 20] at hg
  rcases zgi hg with ⟨-, hg⟩ | ⟨g1, hg⟩
  · exact op2 hg
  · rcases zgi hg with ⟨-, hg⟩ | ⟨g2, hg⟩
    · exact op2 hg
    · have g1 := zble_f g1
      have g2 := zble_f g2
      rw [frc_eq] at hg
      obtain ⟨hv, hg⟩ := zgc h0 hg
      have hv := zble_t hv
      rw [frc_eq, zadd] at hg
      rw [zkd_eq] at rx2 ry2
      have kk := hih nx L _ M hg H locs cells slots ls hI hl
      rw [List.map_cons, zv_ll hv] at kk
      rw [List.map_cons, List.map_cons, zv_l kx, zv_l ky, ← rx3, ← ry3, zvl_lo g1, zvl_lo g2]
      rw [zget_eq, zsub, zsub] at kk
      obtain ⟨rfl, hd⟩ := hd
      have hy1 : zrs M.1 y - 36893488147419103232 ≤ 18446744073709551615 := by omega
      obtain ⟨x1, ex⟩ : ∃ x1, x1 = zrs M.1 x - 36893488147419103232 := ⟨_, rfl⟩
      obtain ⟨y1, ey⟩ : ∃ y1, y1 = zrs M.1 y - 36893488147419103232 := ⟨_, rfl⟩
      rw [← ex, ← ey] at kk ⊢
      rw [← ey] at hy1
      rcases hd with ⟨rfl, hd⟩ | ⟨rfl, hd⟩ | ⟨rfl, hd⟩ | ⟨rfl, hd⟩
      · rw [show zlbs.getD 0 zlbad x1 y1 = zl0 x1 y1 from rfl, zm0] at kk; exact lv_ladd hx hb hd kk
      · rw [show zlbs.getD 1 zlbad x1 y1 = zl1 x1 y1 from rfl, zm1 hy1] at kk; exact lv_lsub hx hb hd kk
      · rw [show zlbs.getD 3 zlbad x1 y1 = zl3 x1 y1 from rfl, zm3] at kk; exact lv_land hx hb hd kk
      · rw [show zlbs.getD 4 zlbad x1 y1 = zl4 x1 y1 from rfl, zm4] at kk; exact lv_lor hx hb hd kk
def zd_ls (cc : ByteArray) (pc w nx : Nat) : Prop := nx = pc + 1 ∧ ((w = 0 ∧ decode cc pc = .ok (.lshl, 1)) ∨ (w = 2 ∧ decode cc pc = .ok (.lushr, 1)))
theorem zo_ls (hx : p.tables.exec = Jvm.exec) (hb : c.code = cc) (h0 : ∀ o, P o → o.1 = 1) {Df : zD} (hDf : zdOK ρ Df) {ih : zK} (hih : zIh p l e R s m args below meth c Q nL D ρ b0 B0 mc ms P ih) {pc L w b nx : Nat} {st : List Nat} {M : zM}
    (hd : zd_ls cc pc w nx) (hg : zgood P (z_ls Df ih pc L st M w b nx)) : zWk p l e R s m args below meth c Q nL D ρ b0 B0 mc ms P pc L st M := by
  intro H locs cells slots ls hI hl
  unfold z_ls at hg
  obtain ⟨y, r1, rfl, hg⟩ := zgl h0 hg
  obtain ⟨x, r, rfl, hg⟩ := zgl h0 hg
  unfold z_ls2 at hg
  obtain ⟨kx, hg⟩ := zgc h0 hg
  obtain ⟨ky, hg⟩ := zgc h0 hg
  have kx := zbeq_t kx
  have ky := zbeq_t ky
  rw [frc_eq, frc_eq] at hg
  obtain ⟨rx3, rx2⟩ := zrs_l hI.1 kx
  obtain ⟨ry3, ry2⟩ := zrs_i hI.1 ky
  unfold z_ls1 at hg
  rw [zadd w 30] at hg
  rcases zgi hg with ⟨g0, hg⟩ | ⟨-, hg⟩
  · have g0 := zble_t g0
    rcases zgi hg with ⟨-, hg⟩ | ⟨g1, hg⟩
    · rcases z_op2_ok h0 (by decide) hI.1 hg with ⟨v, hv, hvk, hg⟩ | ⟨S1, hs1, hg⟩
      · have hq := hDf _ hv
        have kk := hih nx L _ M hg H locs cells slots ls hI hl
        rw [List.map_cons, zv_l hvk] at kk
        rw [List.map_cons, List.map_cons, zv_l kx, zv_i ky]
        obtain ⟨-, -, -, -, -, -, -, -, -, -, -, -, q0, q2⟩ := hq
        obtain ⟨rfl, hd⟩ := hd
        dsimp only at q0 q2
        rw [rx3, ry3] at q0
        rcases hd with ⟨rfl, hd⟩ | ⟨rfl, hd⟩
        · exact lv_lshl hx hb hd (q0 rfl).symm kk
        · exact absurd rfl q2
      · exact hih pc L _ _ hg H locs cells slots ls (hI.S hs1) hl
    · have g1 := zble_f g1
      rw [frc_eq] at hg
      obtain ⟨hv, hg⟩ := zgc h0 hg
      have hv := zble_t hv
      rw [frc_eq, zadd] at hg
      rw [zkd_eq] at rx2
      have kk := hih nx L _ M hg H locs cells slots ls hI hl
      rw [List.map_cons, zv_ll hv] at kk
      rw [List.map_cons, List.map_cons, zv_l kx, zv_i ky, ← rx3, ← ry3, zvl_lo g1, zvi_lo (by omega)]
      rw [zget_eq, zsub] at kk hv
      obtain ⟨rfl, hd⟩ := hd
      have hx1 : zrs M.1 x - 36893488147419103232 ≤ 18446744073709551615 := by omega
      obtain ⟨x1, ex⟩ : ∃ x1, x1 = zrs M.1 x - 36893488147419103232 := ⟨_, rfl⟩
      rw [← ex] at kk hx1 hv ⊢
      rcases hd with ⟨rfl, hd⟩ | ⟨rfl, hd⟩
      · rw [show zlss.getD 0 zlbad x1 (zrs M.1 y) = 18446744073709551616 from rfl] at hv
        omega
      · rw [show zlss.getD 2 zlbad x1 (zrs M.1 y) = zs2 x1 (zrs M.1 y) from rfl] at kk
        exact lv_lushr hx hb hd (zms hx1 g0).symm kk
  · obtain ⟨-, hg⟩ := zgc h0 hg
    obtain ⟨S1, hs1, hg⟩ := zsp_in h0 hg hI.1
    exact hih pc L _ _ hg H locs cells slots ls (hI.S hs1) hl
end ZOP4
