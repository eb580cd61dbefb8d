/-! A copy of an array; returns -/
section ZRET
variable {p : Program} {l : Launch} {e : Env} {R : Room} {s : State} {m : MethodId} {args : Array Value} {below : List Frame} {meth : Method} {c : Code} {Q : State → Prop}
variable {cc : ByteArray} {nL : Nat} {D : va_G} {ρ : Nat → Int} {b0 B0 mc ms : Nat} {P : zO → Prop} {ret : Option FieldType}
def zRt (cc : ByteArray) (ret : Option FieldType) (pc v : Nat) : Prop :=
  (v = 110680464442257309696 ∧ decode cc pc = .ok (.return_, 1) ∧ ret = none) ∨ (zkd v = 0 ∧ decode cc pc = .ok (.ireturn, 1) ∧ (ret = some .int ∨ (ret = some .boolean ∧ v ≤ 1))) ∨
  (zkd v = 1 ∧ decode cc pc = .ok (.lreturn, 1) ∧ ret = some .long) ∨ (zkd v = 2 ∧ decode cc pc = .ok (.areturn, 1) ∧ ∃ rt, ret = some rt ∧ ((∃ n, rt = .object n) ∨ ∃ t, rt = .array t))
def zRetOK (p : Program) (l : Launch) (e : Env) (R : Room) (s : State) (m : MethodId) (args : Array Value) (below : List Frame) (meth : Method) (c : Code) (Q : State → Prop) (cc : ByteArray) (ret : Option FieldType) (D : va_G) (ρ : Nat → Int) (b0 B0 mc ms : Nat) (P : zO → Prop) : Prop :=
  ∀ (o : zO) (H : Heap) (locs : List Loc) (cells slots pc : Nat) (ls : Array Slot), P o → zsat ρ o.2.2.1 → zHR D ρ b0 B0 s H o.2.2.2.1 o.2.2.2.2 → va_S (fun q => B0 ≤ q) s.heap H locs → cells ≤ mc → slots ≤ ms → zRt cc ret pc o.2.1 →
    W p l e R s m args below meth c H locs cells slots Q (F0 m pc ls (zrv ρ (zα b0 B0) o.2.1).toList)
theorem zo_vret (h0 : ∀ o, P o → o.1 = 1) (hret : zRetOK p l e R s m args below meth c Q cc ret D ρ b0 B0 mc ms P) {ih : zK} {pc L a b nx : Nat} {st : List Nat} {M : zM}
    (hd : decode cc pc = .ok (.return_, 1) ∧ ret = none) (hg : zgood P (z_vret ih pc L st M a b nx)) : zWk p l e R s m args below meth c Q nL D ρ b0 B0 mc ms P pc L st M := by
  intro H locs cells slots ls hI hl
  cases st with
  | cons v r => exact (zgood_no h0 hg).elim
  | nil =>
    have hP := hg _ (List.mem_singleton.mpr rfl)
    obtain ⟨i1, i2, i3, i4, i5⟩ := hI
    exact hret _ H locs cells slots pc ls hP i1 i2 i3 (by omega) (by omega) (Or.inl ⟨rfl, hd⟩)
def zd_xret (cc : ByteArray) (ret : Option FieldType) (pc a b : Nat) : Prop := (a = 0 ∧ decode cc pc = .ok (.ireturn, 1) ∧ ((b = 0 ∧ ret = some .int) ∨ (b ≠ 0 ∧ ret = some .boolean))) ∨ (a = 1 ∧ decode cc pc = .ok (.lreturn, 1) ∧ ret = some .long) ∨
  (a = 2 ∧ decode cc pc = .ok (.areturn, 1) ∧ ∃ rt, ret = some rt ∧ ((∃ n, rt = .object n) ∨ ∃ t, rt = .array t))
theorem zo_xret (h0 : ∀ o, P o → o.1 = 1) (hret : zRetOK p l e R s m args below meth c Q cc ret D ρ b0 B0 mc ms P) {ih : zK} {pc L a b nx : Nat} {st : List Nat} {M : zM}
    (hd : zd_xret cc ret pc a b) (hg : zgood P (z_xret ih pc L st M a b nx)) : zWk p l e R s m args below meth c Q nL D ρ b0 B0 mc ms P pc L st M := by
  intro H locs cells slots ls hI hl
  unfold z_xret at hg
  obtain ⟨v, r, hst, hg1⟩ := zgl h0 hg
  subst hst
  clear hg
  cases r with
  | cons v2 r2 => exact (zgood_no h0 hg1).elim
  | nil =>
    have hg1 : zgood P (frc (zrs M.1 v) fun v1 => z_xret1 v1 M a b) := hg1
    rw [frc_eq] at hg1
    obtain ⟨r1, r2⟩ := zrs_ok (α := zα b0 B0) hI.1 v
    unfold z_xret1 at hg1
    obtain ⟨ka, hg⟩ := zgc h0 hg1
    have ka := zbeq_t ka
    obtain ⟨i1, i2, i3, i4, i5⟩ := hI
    have ha : a ≤ 2 := by rcases hd with ⟨rfl, -⟩ | ⟨rfl, -⟩ | ⟨rfl, -⟩ <;> omega
    have es : (zrv ρ (zα b0 B0) (zrs M.1 v)).toList = [v].map (zv ρ (zα b0 B0)) := by
      unfold zrv
      rw [zkd_eq] at ka
      rw [if_neg (by omega), r1]
      rfl
    have key : P (1, zrs M.1 v, M.1, M.2.1, M.2.2.1) → zRt cc ret pc (zrs M.1 v) → W p l e R s m args below meth c H locs cells slots Q (F0 m pc ls ([v].map (zv ρ (zα b0 B0)))) := by
      intro hP hz
      have := hret (1, zrs M.1 v, M.1, M.2.1, M.2.2.1) H locs cells slots pc ls hP i1 i2 i3 (by omega) (by omega) hz
      rw [es] at this
      exact this
    rcases zgi hg with ⟨hb0, hg⟩ | ⟨hb0, hg⟩
    · have hP := hg _ (List.mem_singleton.mpr rfl)
      refine key hP ?_
      rcases hd with ⟨rfl, hd, ⟨-, hr⟩ | ⟨hb, -⟩⟩ | ⟨rfl, hd, hr⟩ | ⟨rfl, hd, hr⟩
      · exact Or.inr (Or.inl ⟨ka, hd, Or.inl hr⟩)
      · exact absurd (zbeq_t hb0) hb
      · exact Or.inr (Or.inr (Or.inl ⟨ka, hd, hr⟩))
      · exact Or.inr (Or.inr (Or.inr ⟨ka, hd, hr⟩))
    · obtain ⟨hv1, hg⟩ := zgc h0 hg
      have hP := hg _ (List.mem_singleton.mpr rfl)
      refine key hP ?_
      rcases hd with ⟨rfl, hd, ⟨hb, hr⟩ | ⟨-, hr⟩⟩ | ⟨rfl, hd, hr⟩ | ⟨rfl, hd, hr⟩
      · exact absurd hb (zbeq_f hb0)
      · exact Or.inr (Or.inl ⟨ka, hd, Or.inr ⟨hr, zble_t hv1⟩⟩)
      · exact Or.inr (Or.inr (Or.inl ⟨ka, hd, hr⟩))
      · exact Or.inr (Or.inr (Or.inr ⟨ka, hd, hr⟩))
def zd_copy (cc : ByteArray) (own : String) (pc nx : Nat) : Prop := nx = pc + 3 ∧ ∃ i : Nat, decode cc pc = .ok (.invokestatic i, 3) ∧ Cond.methodLink own i arraycopyName ∈ zGW ∧ Cond.native arraycopyName ∈ zGW ∧ Cond.static arraycopyName ∈ zGW ∧ Cond.initialized "java/lang/System" ∈ zGW
theorem zo_copy (hx : p.tables.exec = Jvm.exec) (hb : c.code = cc) (hml : c.maxLocals = nL) (h0 : ∀ o, P o → o.1 = 1) {own : String} (hown : s.vm.findClass own = some m.cls) (hw : ∀ w ∈ zGW, w.before args s = true) (hfr : 1 ≤ R.frames) (hlo : 100 ≤ R.locals) {ih : zK} (hih : zIh p l e R s m args below meth c Q nL D ρ b0 B0 mc ms P ih) {pc L a b nx : Nat} {st : List Nat} {M : zM}
    (hd : zd_copy cc own pc nx) (hg : zgood P (z_copy ih pc L st M a b nx)) : zWk p l e R s m args below meth c Q nL D ρ b0 B0 mc ms P pc L st M := by
  sorry
end ZRET
