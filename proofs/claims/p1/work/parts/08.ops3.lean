/-! Instructions on numbers and branches, against the machine -/
section ZOP3
variable {p : Program} {l : Launch} {e : Env} {R : Room} {s : State} {m : MethodId} {args : Array Value} {below : List Frame} {meth : Method} {c : Code} {Q : State → Prop}
variable {cc : ByteArray} {nL : Nat} {D : va_G} {ρ : Nat → Int} {b0 B0 mc ms : Nat} {P : zO → Prop}
theorem zv_lo {x : Nat} (h : x ≤ 4294967295) : zv ρ (zα b0 B0) x = .int (Int32.ofNat x) := by
  rw [zv_i (by rw [zkd_eq]; omega), zvi_lo h]
theorem zv_ll {x : Nat} (h : x ≤ 18446744073709551615) : zv ρ (zα b0 B0) (36893488147419103232 + x) = .long (Int64.ofNat x) := by
  rw [zv_l (by rw [zkd_eq]; omega), zvl_lo (by omega), Nat.add_sub_cancel_left]
/-- of a constant -/
def zd_push (cc : ByteArray) (own : String) (pc a nx : Nat) : Prop :=
  (∃ n : Int, a ≤ 4294967295 ∧ nx = pc + 1 ∧ decode cc pc = .ok (.iconst n, 1) ∧ Int32.ofInt n = Int32.ofNat a) ∨
  (∃ n : Int, a ≤ 4294967295 ∧ nx = pc + 2 ∧ decode cc pc = .ok (.bipush n, 2) ∧ (Int8.ofInt n).toInt32 = Int32.ofNat a) ∨
  (∃ n : Int, a ≤ 4294967295 ∧ nx = pc + 3 ∧ decode cc pc = .ok (.sipush n, 3) ∧ (Int16.ofInt n).toInt32 = Int32.ofNat a) ∨
  (∃ i : Nat, a ≤ 4294967295 ∧ nx = pc + 2 ∧ decode cc pc = .ok (.ldc i, 2) ∧ Cond.constant own i (Int32.ofNat a) ∈ zGW) ∨
  (∃ i : Nat, a ≤ 4294967295 ∧ nx = pc + 3 ∧ decode cc pc = .ok (.ldc_w i, 3) ∧ Cond.constant own i (Int32.ofNat a) ∈ zGW) ∨
  (∃ (i x : Nat), x ≤ 18446744073709551615 ∧ a = 36893488147419103232 + x ∧ nx = pc + 3 ∧ decode cc pc = .ok (.ldc2_w i, 3) ∧ Cond.constantLong own i (Int64.ofNat x) ∈ zGW) ∨
  (∃ n : Fin 2, a = 36893488147419103232 + (n : Nat) ∧ nx = pc + 1 ∧ decode cc pc = .ok (.lconst n, 1)) ∨
  (a = 92233720368547758080 ∧ nx = pc + 1 ∧ decode cc pc = .ok (.aconst_null, 1))
theorem zo_push (hx : p.tables.exec = Jvm.exec) (hb : c.code = cc) {own : String} (hown : s.vm.findClass own = some m.cls) (hw : ∀ w ∈ zGW, w.before args s = true) {ih : zK} (hih : zIh p l e R s m args below meth c Q nL D ρ b0 B0 mc ms P ih) {pc L a b nx : Nat} {st : List Nat} {M : zM}
    (hd : zd_push cc own pc a nx) (hg : zgood P (z_push ih pc L st M a b nx)) : zWk p l e R s m args below meth c Q nL D ρ b0 B0 mc ms P pc L st M := by
  intro H locs cells slots ls hI hl
  have kk := hih nx L (a :: st) M hg H locs cells slots ls hI hl
  rw [List.map_cons] at kk
  rcases hd with ⟨n, ha, rfl, hd, h2⟩ | ⟨n, ha, rfl, hd, h2⟩ | ⟨n, ha, rfl, hd, h2⟩ | ⟨i, ha, rfl, hd, h2⟩ | ⟨i, ha, rfl, hd, h2⟩ | ⟨i, x, ha, rfl, rfl, hd, h2⟩ | ⟨n, rfl, rfl, hd⟩ | ⟨rfl, rfl, hd⟩
  · rw [zv_lo ha] at kk; exact lv_iconst hx hb hd h2 kk
  · rw [zv_lo ha] at kk; exact lv_bipush hx hb hd h2 kk
  · rw [zv_lo ha] at kk; exact lv_sipush hx hb hd h2 kk
  · rw [zv_lo ha] at kk; exact lv_ldc hx hb hown (hw _ h2) hd kk
  · rw [zv_lo ha] at kk; exact lv_ldcw hx hb hown (hw _ h2) hd kk
  · rw [zv_ll ha] at kk; exact lv_ldc2 hx hb hown (hw _ h2) hd kk
  · rw [zv_ll (by have := n.isLt; omega)] at kk; exact lv_lconst hx hb hd rfl kk
  · rw [zv_null (Nat.le_refl _)] at kk; exact lv_null hx hb hd kk
theorem zo_goto (hx : p.tables.exec = Jvm.exec) (hb : c.code = cc) {ih : zK} (hih : zIh p l e R s m args below meth c Q nL D ρ b0 B0 mc ms P ih) {pc L a b nx : Nat} {st : List Nat} {M : zM}
    (hd : ∃ off : Int, decode cc pc = .ok (.goto off, 3) ∧ (pc : Int) + off = (b : Int)) (hg : zgood P (z_goto ih pc L st M a b nx)) : zWk p l e R s m args below meth c Q nL D ρ b0 B0 mc ms P pc L st M := by
  intro H locs cells slots ls hI hl
  obtain ⟨off, hd, ht⟩ := hd
  exact lv_goto hx hb hd ht (hih b L st M hg H locs cells slots ls hI hl)
/-- of a sum of ints -/
def zd_ib (cc : ByteArray) (pc w nx : Nat) : Prop := nx = pc + 1 ∧
  ((w = 0 ∧ decode cc pc = .ok (.iadd, 1)) ∨ (w = 1 ∧ decode cc pc = .ok (.isub, 1)) ∨ (w = 2 ∧ decode cc pc = .ok (.imul, 1)) ∨ (w = 3 ∧ decode cc pc = .ok (.iand, 1)) ∨ (w = 4 ∧ decode cc pc = .ok (.ior, 1)) ∨
   (w = 6 ∧ decode cc pc = .ok (.ishl, 1)) ∨ (w = 9 ∧ decode cc pc = .ok (.idiv, 1)) ∨ (w = 10 ∧ decode cc pc = .ok (.irem, 1)))
theorem zo_ibF (hx : p.tables.exec = Jvm.exec) (hb : c.code = cc) (h0 : ∀ o, P o → o.1 = 1) {ih : zK} (hih : zIh p l e R s m args below meth c Q nL D ρ b0 B0 mc ms P ih) {pc L x y w nx : Nat} {r : List Nat} {M : zM} (hX : x ≤ 4294967295) (hY : y ≤ 4294967295)
    (hd : zd_ib cc pc w nx) (hg : zgood P (z_ibF ih L x y r M w nx)) {H : Heap} {locs : List Loc} {cells slots : Nat} {ls : Array Slot} (hI : zI D ρ b0 B0 mc ms s M H locs cells slots) (hl : lv_has ls nL (zLs ρ (zα b0 B0) nL L)) :
    W p l e R s m args below meth c H locs cells slots Q (F0 m pc ls (.int (Int32.ofNat y) :: .int (Int32.ofNat x) :: r.map (zv ρ (zα b0 B0)))) := by
  unfold z_ibF at hg
  rw [frc_eq] at hg
  obtain ⟨hv, hg⟩ := zgc h0 hg
  have hv := zble_t hv
  obtain ⟨rfl, hd⟩ := hd
  have kk := hih _ L _ M hg H locs cells slots ls hI hl
  rw [List.map_cons, zv_lo hv] at kk
  rw [zget_eq] at kk hv
  rcases hd with ⟨rfl, hd⟩ | ⟨rfl, hd⟩ | ⟨rfl, hd⟩ | ⟨rfl, hd⟩ | ⟨rfl, hd⟩ | ⟨rfl, hd⟩ | ⟨rfl, hd⟩ | ⟨rfl, hd⟩
  · rw [show zibs.getD 0 zibad x y = zi0 x y from rfl, zn0] at kk; exact lv_iadd hx hb hd kk
  · rw [show zibs.getD 1 zibad x y = zi1 x y from rfl, zn1 hY] at kk; exact lv_isub hx hb hd kk
  · rw [show zibs.getD 2 zibad x y = zi2 x y from rfl, zn2] at kk; exact lv_imul hx hb hd kk
  · rw [show zibs.getD 3 zibad x y = zi3 x y from rfl, zn3] at kk; exact lv_iand hx hb hd kk
  · rw [show zibs.getD 4 zibad x y = zi4 x y from rfl, zn4] at kk; exact lv_ior hx hb hd kk
  · rw [show zibs.getD 6 zibad x y = zi6 x y from rfl] at kk hv; rw [zn6 (zi6_le hv)] at kk; exact lv_ishl hx hb hd kk
  · rw [show zibs.getD 9 zibad x y = zi9 x y from rfl] at kk hv
    obtain ⟨g1, g2, g3, g4⟩ := zi9_le hv
    rw [g4, zn9 g1 g2 g3] at kk
    exact lv_idiv hx hb hd (zn_ne g2 g3) kk
  · rw [show zibs.getD 10 zibad x y = zi10 x y from rfl] at kk hv
    obtain ⟨g1, g2, g3, g4⟩ := zi10_le hv
    rw [g4, zn10 g1 g2 g3] at kk
    exact lv_irem hx hb hd (zn_ne g2 g3) kk
theorem z_op2_ok (h0 : ∀ o, P o → o.1 = 1) {Df : zD} {ih : zK} {pc L x y w kd nx : Nat} {r st : List Nat} {M : zM} (hkd : kd ≤ 2) (hs : zsat ρ M.1) (hg : zgood P (z_op2 Df ih pc L x y r st M w kd nx)) :
    (∃ v, (w, x, y, v) ∈ Df ∧ zkd v = kd ∧ zgood P (ih nx L (v :: r) M)) ∨ ∃ S1, zsat ρ S1 ∧ zgood P (ih pc L st (S1, M.2)) := by
  unfold z_op2 at hg
  rw [frc_eq] at hg
  rcases zgi hg with ⟨h1, hg⟩ | ⟨h1, hg⟩
  · left
    have h1 := zbeq_t h1
    rcases zdf_in Df w x y with q | q
    · rw [q, zkd_eq] at h1
      omega
    · exact ⟨_, q, h1, hg⟩
  · right
    rcases zgi hg with ⟨h2, hg⟩ | ⟨h2, hg⟩
    · exact zsp_in h0 hg hs
    · obtain ⟨h3, hg⟩ := zgc h0 hg
      exact zsp_in h0 hg hs
theorem zo_ib (hx : p.tables.exec = Jvm.exec) (hb : c.code = cc) (h0 : ∀ o, P o → o.1 = 1) {Df : zD} (hDf : zdOK ρ Df) {ih : zK} (hih : zIh p l e R s m args below meth c Q nL D ρ b0 B0 mc ms P ih) {pc L w b nx : Nat} {st : List Nat} {M : zM}
    (hd : zd_ib cc pc w nx) (hg : zgood P (z_ib Df ih pc L st M w b nx)) : zWk p l e R s m args below meth c Q nL D ρ b0 B0 mc ms P pc L st M := by
  intro H locs cells slots ls hI hl
  unfold z_ib at hg
  obtain ⟨y, r1, rfl, hg⟩ := zgl h0 hg
  obtain ⟨x, r, rfl, hg⟩ := zgl h0 hg
  rw [List.map_cons, List.map_cons]
  have slow : zgood P (z_ibS Df ih pc L x y r (y :: x :: r) M w nx) → W p l e R s m args below meth c H locs cells slots Q (F0 m pc ls (zv ρ (zα b0 B0) y :: zv ρ (zα b0 B0) x :: r.map (zv ρ (zα b0 B0)))) := by
    intro hg
    unfold z_ibS at hg
    obtain ⟨kx, hg⟩ := zgc h0 hg
    obtain ⟨ky, hg⟩ := zgc h0 hg
    have kx := zbeq_t kx
    have ky := zbeq_t ky
    rw [frc_eq, frc_eq] at hg
    obtain ⟨rx1, rx2⟩ := zrs_ok (α := zα b0 B0) hI.1 x
    obtain ⟨ry1, ry2⟩ := zrs_ok (α := zα b0 B0) hI.1 y
    have rx3 : zvi ρ (zrs M.1 x) = zvi ρ x := by rw [zv_i kx, zv_i (by rw [rx2]; exact kx)] at rx1; exact Value.int.inj rx1
    have ry3 : zvi ρ (zrs M.1 y) = zvi ρ y := by rw [zv_i ky, zv_i (by rw [ry2]; exact ky)] at ry1; exact Value.int.inj ry1
    have op2 : zgood P (z_op2 Df ih pc L (zrs M.1 x) (zrs M.1 y) r (y :: x :: r) M w 0 nx) → W p l e R s m args below meth c H locs cells slots Q (F0 m pc ls (zv ρ (zα b0 B0) y :: zv ρ (zα b0 B0) x :: r.map (zv ρ (zα b0 B0)))) := by
      intro hg
      rcases z_op2_ok h0 (by decide) hI.1 hg with ⟨v, hv, hvk, hg⟩ | ⟨S1, hs1, hg⟩
      · have hq := hDf _ hv
        have kk := hih nx L _ M hg H locs cells slots ls hI hl
        rw [List.map_cons, zv_i hvk] at kk
        rw [zv_i kx, zv_i ky]
        obtain ⟨q0, q1, q2, q3, q4, q6, q9, q10, -⟩ := hq
        obtain ⟨rfl, hd⟩ := hd
        dsimp only at q0 q1 q2 q3 q4 q6 q9 q10
        rw [rx3, ry3] at q0 q1 q2 q3 q4 q6
        rcases hd with ⟨rfl, hd⟩ | ⟨rfl, hd⟩ | ⟨rfl, hd⟩ | ⟨rfl, hd⟩ | ⟨rfl, hd⟩ | ⟨rfl, hd⟩ | ⟨rfl, hd⟩ | ⟨rfl, hd⟩
        · rw [q0 rfl] at kk; exact lv_iadd hx hb hd kk
        · rw [q1 rfl] at kk; exact lv_isub hx hb hd kk
        · rw [q2 rfl] at kk; exact lv_imul hx hb hd kk
        · rw [q3 rfl] at kk; exact lv_iand hx hb hd kk
        · rw [q4 rfl] at kk; exact lv_ior hx hb hd kk
        · rw [q6 rfl] at kk; exact lv_ishl hx hb hd kk
        · exact absurd rfl q9
        · exact absurd rfl q10
      · have kk := hih pc L _ _ hg H locs cells slots ls (hI.S hs1) hl
        rw [List.map_cons, List.map_cons] at kk
        exact kk
    unfold z_ibS1 at hg
    rcases zgi hg with ⟨g1, hg⟩ | ⟨-, hg⟩
    · rcases zgi hg with ⟨g2, hg⟩ | ⟨-, hg⟩
      · have g1 := zble_t g1
        have g2 := zble_t g2
        have := zo_ibF hx hb h0 hih g1 g2 hd hg hI hl
        rw [← rx1, ← ry1, zv_lo g1, zv_lo g2]
        exact this
      · exact op2 hg
    · exact op2 hg
  unfold z_ib2 at hg
  rcases zgi hg with ⟨g1, hg⟩ | ⟨-, hg⟩
  · rcases zgi hg with ⟨g2, hg⟩ | ⟨-, hg⟩
    · have g1 := zble_t g1
      have g2 := zble_t g2
      rw [zv_lo g1, zv_lo g2]
      exact zo_ibF hx hb h0 hih g1 g2 hd hg hI hl
    · exact slow hg
  · exact slow hg
end ZOP3
