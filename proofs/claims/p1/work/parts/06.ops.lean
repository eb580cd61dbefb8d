/-! What a state of the reader says of the machine; the reader's instructions against the machine's: values, locals, sums, branches -/
def zα (b0 B0 k : Nat) : Nat := if k = 0 then b0 else B0 + (k - 1)
noncomputable def zae (c : zC) (j : Nat) : Nat := Nat.xor (bget c.2.2 j) (zdv c.1)
/-- a cell -/
def zCl (ρ : Nat → Int) (α : Nat → Nat) (tys : List (ClassId × FieldType)) (c : zC) (e : va_E) : Prop :=
  (∃ (fs : List Value) (r : vw_C), e = .inr (c.1, fs) ∧ c.1 < 13 ∧ vwCl[c.1]? = some r ∧ c.2.1 = r.2.2 ∧ fs.length = c.2.1 ∧ ∀ k, k < c.2.1 → fs[k]? = some (zv ρ α (bget c.2.2 k))) ∨
  (∃ (cA : ClassId) (t0 : Nat) (f : Nat → Int32), c.1 = 100 ∧ e = .inl (cA, c.2.1, .inl f) ∧ tys[t0]? = some (cA, .int) ∧ ∀ j, j < c.2.1 → Value.int (f j) = zv ρ α (zae c j)) ∨
  (∃ (cA : ClassId) (t0 : Nat) (f : Nat → Int64), c.1 = 101 ∧ e = .inl (cA, c.2.1, .inr (.inl f)) ∧ tys[t0]? = some (cA, .long) ∧ ∀ j, j < c.2.1 → Value.long (f j) = zv ρ α (zae c j)) ∨
  (∃ (cA : ClassId) (t0 : Nat) (f : Nat → Int32), c.1 = 102 ∧ e = .inl (cA, c.2.1, .inl f) ∧ tys[t0]? = some (cA, .byte) ∧ ∀ j, j < c.2.1 → Value.int (f j) = zv ρ α (zae c j)) ∨
  (∃ (cA : ClassId) (t0 : Nat) (f : Nat → Int32), c.1 = 103 ∧ e = .inl (cA, c.2.1, .inl f) ∧ tys[t0]? = some (cA, .boolean)) ∨
  (∃ (cA : ClassId) (t0 ci : Nat) (r : vw_C) (f : Nat → Option Nat), c.1 = 104 + ci ∧ e = .inl (cA, c.2.1, .inr (.inr (.inr (.inr f)))) ∧ vwCl[ci]? = some r ∧ tys[t0]? = some (cA, .object r.1) ∧ ∀ j, j < c.2.1 → va_rf (f j) = zv ρ α (zae c j))
/-- the script -/
def zScr (ρ : Nat → Int) (b0 B0 : Nat) (s : State) (H : Heap) (c : zC) : Prop :=
  c.1 = 100 ∧ b0 < B0 ∧ ∃ f : Nat → Int32, va_X b0 c.2.1 f s H ∧ ∀ j, j < c.2.1 → Value.int (f j) = zv ρ (zα b0 B0) (zae c j)
/-- all cells -/
def zHR (D : va_G) (ρ : Nat → Int) (b0 B0 : Nat) (s : State) (H : Heap) (h : zH) (len : Nat) : Prop :=
  ∃ (ws : va_W) (tys : List (ClassId × FieldType)), va_K D vwCl tys s ∧ va_P D vwCl ws H ∧ va_D (fun q => B0 ≤ q) ws ∧ ws.length + 1 = len ∧
    (∀ (k : Nat) (q : Nat × va_E), ws[k]? = some q → q.1 = B0 + k ∧ zCl ρ (zα b0 B0) tys (hget h (k + 1)) q.2) ∧ H.size = B0 + ws.length ∧ zScr ρ b0 B0 s H (hget h 0) ∧
    zsh h ∧ len ≤ 127 ∧ (∀ q, len ≤ q → (hget h q).1 = 99) ∧ ∀ q, (hget h q).2.1 ≤ 60000
theorem zHR.moved {D : va_G} {ρ : Nat → Int} {b0 B0 : Nat} {s U : State} {H : Heap} {h : zH} {len : Nat} (hvm : s.vm.Alike U.vm) (hh : zHR D ρ b0 B0 s H h len) : zHR D ρ b0 B0 U H h len := by
  obtain ⟨ws, tys, h1, h2, h3, h4, h5, h6, ⟨g1, g2, f, g3, g4⟩, h8⟩ := hh
  exact ⟨ws, tys, va_K.moved hvm h1, h2, h3, h4, h5, h6, ⟨g1, g2, f, va_X.moved hvm g3, g4⟩, h8⟩
/-- the locals that are told -/
def zLs (ρ : Nat → Int) (α : Nat → Nat) (nL L : Nat) : List (Nat × Value) := ((List.range nL).filter (fun i => decide (zkd (bget L i) ≤ 2))).map (fun i => (i, zv ρ α (bget L i)))
theorem zLs_mem {ρ : Nat → Int} {α : Nat → Nat} {nL L : Nat} {q : Nat × Value} : q ∈ zLs ρ α nL L ↔ q.1 < nL ∧ zkd (bget L q.1) ≤ 2 ∧ q.2 = zv ρ α (bget L q.1) := by
  unfold zLs
  rw [List.mem_map]
  constructor
  · rintro ⟨i, hi, rfl⟩
    rw [List.mem_filter, List.mem_range, decide_eq_true_eq] at hi
    exact ⟨hi.1, hi.2, rfl⟩
  · rintro ⟨h1, h2, h3⟩
    refine ⟨q.1, ?_, ?_⟩
    · rw [List.mem_filter, List.mem_range, decide_eq_true_eq]
      exact ⟨h1, h2⟩
    · rw [← h3]
theorem zLs_at {ρ : Nat → Int} {α : Nat → Nat} {nL L : Nat} {ls : Array Slot} (h : lv_has ls nL (zLs ρ α nL L)) {i : Nat} (hi : i < nL) (hk : zkd (bget L i) ≤ 2) : ls[i]? = some (.val (zv ρ α (bget L i))) :=
  h.2.2 (i, zv ρ α (bget L i)) (zLs_mem.mpr ⟨hi, hk, rfl⟩)
theorem zhas_sub {ls : Array Slot} {nL : Nat} {l l' : List (Nat × Value)} (h : lv_has ls nL l) (hs : ∀ q ∈ l', q ∈ l) : lv_has ls nL l' := ⟨h.1, h.2.1, fun q hq => h.2.2 q (hs q hq)⟩
/-- a store of a value of one slot -/
theorem zLs_st1 {ρ : Nat → Int} {α : Nat → Nat} {nL L i v : Nat} {ls : Array Slot} (hv : v < 4722366482869645213696) (hn : i = 0 ∨ ¬ zkd (bget L (i - 1)) = 1)
    (h : lv_has ls nL ((i, zv ρ α v) :: (zLs ρ α nL L).filter (fun q => !(q.1 == i) && !(q.1 + 1 == i && q.2.category == 2)))) : lv_has ls nL (zLs ρ α nL (bset L i v)) := by
  refine zhas_sub h fun q hq => ?_
  obtain ⟨h1, h2, h3⟩ := zLs_mem.mp hq
  rw [bget_bset hv] at h2 h3
  by_cases e : q.1 = i
  · rw [if_pos e] at h3
    exact List.mem_cons.mpr (Or.inl (by rw [← e, ← h3]))
  · rw [if_neg e] at h2 h3
    refine List.mem_cons.mpr (Or.inr (List.mem_filter.mpr ⟨zLs_mem.mpr ⟨h1, h2, h3⟩, ?_⟩))
    simp only [Bool.and_eq_true, Bool.not_eq_true', beq_eq_false_iff_ne, ne_eq, Bool.and_eq_false_iff]
    refine ⟨e, ?_⟩
    rcases hn with hn | hn
    · left; omega
    · by_cases e2 : q.1 + 1 = i
      · right
        have e3 : i - 1 = q.1 := by omega
        rw [e3] at hn
        rw [h3, zv_cat1 hn]
        decide
      · left; exact e2
/-- a store of a long -/
theorem zLs_st2 {ρ : Nat → Int} {α : Nat → Nat} {nL L i v : Nat} {ls : Array Slot} (hv : v < 4722366482869645213696) (hn : i = 0 ∨ ¬ zkd (bget L (i - 1)) = 1)
    (h : lv_has ls nL ((i, zv ρ α v) :: (zLs ρ α nL L).filter (fun q => !(q.1 == i) && (!(q.1 == i + 1) && !(q.1 + 1 == i && q.2.category == 2))))) : lv_has ls nL (zLs ρ α nL (bset (bset L i v) (i + 1) 110680464442257309696)) := by
  refine zhas_sub h fun q hq => ?_
  obtain ⟨h1, h2, h3⟩ := zLs_mem.mp hq
  rw [bget_bset (by decide)] at h2 h3
  by_cases e0 : q.1 = i + 1
  · rw [if_pos e0, zkd_eq] at h2
    omega
  rw [if_neg e0, bget_bset hv] at h2 h3
  by_cases e : q.1 = i
  · rw [if_pos e] at h3
    exact List.mem_cons.mpr (Or.inl (by rw [← e, ← h3]))
  · rw [if_neg e] at h2 h3
    refine List.mem_cons.mpr (Or.inr (List.mem_filter.mpr ⟨zLs_mem.mpr ⟨h1, h2, h3⟩, ?_⟩))
    simp only [Bool.and_eq_true, Bool.not_eq_true', beq_eq_false_iff_ne, ne_eq, Bool.and_eq_false_iff]
    refine ⟨e, e0, ?_⟩
    rcases hn with hn | hn
    · left; omega
    · by_cases e2 : q.1 + 1 = i
      · right
        have e3 : i - 1 = q.1 := by omega
        rw [e3] at hn
        rw [h3, zv_cat1 hn]
        decide
      · left; exact e2
theorem z_noL_ok {P : zO → Prop} (h0 : ∀ o, P o → o.1 = 1) {L a : Nat} {k : List zO} (h : zgood P (z_noL L a k)) : (a = 0 ∨ ¬ zkd (bget L (a - 1)) = 1) ∧ zgood P k := by
  unfold z_noL at h
  rcases zgi h with ⟨h1, h2⟩ | ⟨h1, h2⟩
  · exact ⟨Or.inl (zbeq_t h1), h2⟩
  · obtain ⟨h3, h4⟩ := zgcn h0 h2
    rw [zpre] at h3
    exact ⟨Or.inr (zbeq_f h3), h4⟩
section ZOPS
variable {p : Program} {l : Launch} {e : Env} {R : Room} {s : State} {m : MethodId} {args : Array Value} {below : List Frame} {meth : Method} {c : Code} {Q : State → Prop}
variable {cc : ByteArray} {nL : Nat} {D : va_G} {ρ : Nat → Int} {b0 B0 mc ms : Nat} {P : zO → Prop}
def zI (D : va_G) (ρ : Nat → Int) (b0 B0 mc ms : Nat) (s : State) (M : zM) (H : Heap) (locs : List Loc) (cells slots : Nat) : Prop :=
  zsat ρ M.1 ∧ zHR D ρ b0 B0 s H M.2.1 M.2.2.1 ∧ va_S (fun q => B0 ≤ q) s.heap H locs ∧ cells + M.2.2.2.1 = mc ∧ slots + M.2.2.2.2 = ms
/-- what the reader tells from a state on, the machine does -/
def zWk (p : Program) (l : Launch) (e : Env) (R : Room) (s : State) (m : MethodId) (args : Array Value) (below : List Frame) (meth : Method) (c : Code) (Q : State → Prop) (nL : Nat) (D : va_G) (ρ : Nat → Int) (b0 B0 mc ms : Nat) (P : zO → Prop) (pc L : Nat) (st : List Nat) (M : zM) : Prop :=
  ∀ (H : Heap) (locs : List Loc) (cells slots : Nat) (ls : Array Slot), zI D ρ b0 B0 mc ms s M H locs cells slots → lv_has ls nL (zLs ρ (zα b0 B0) nL L) →
    W p l e R s m args below meth c H locs cells slots Q (F0 m pc ls (st.map (zv ρ (zα b0 B0))))
def zIh (p : Program) (l : Launch) (e : Env) (R : Room) (s : State) (m : MethodId) (args : Array Value) (below : List Frame) (meth : Method) (c : Code) (Q : State → Prop) (nL : Nat) (D : va_G) (ρ : Nat → Int) (b0 B0 mc ms : Nat) (P : zO → Prop) (ih : zK) : Prop :=
  ∀ (pc L : Nat) (st : List Nat) (M : zM), zgood P (ih pc L st M) → zWk p l e R s m args below meth c Q nL D ρ b0 B0 mc ms P pc L st M
theorem zI.S {M : zM} {H : Heap} {locs : List Loc} {cells slots : Nat} (h : zI D ρ b0 B0 mc ms s M H locs cells slots) {S1 : zS} (hs : zsat ρ S1) : zI D ρ b0 B0 mc ms s (S1, M.2) H locs cells slots := ⟨hs, h.2⟩
/-- of a load -/
def zd_load (cc : ByteArray) (nL pc a b nx : Nat) : Prop := a < nL ∧
  ((b = 0 ∧ ((∃ k : Fin 4, (k : Nat) = a ∧ decode cc pc = .ok (.iload_n k, 1) ∧ nx = pc + 1) ∨ (decode cc pc = .ok (.iload a, 2) ∧ nx = pc + 2))) ∨
   (b = 1 ∧ ((∃ k : Fin 4, (k : Nat) = a ∧ decode cc pc = .ok (.lload_n k, 1) ∧ nx = pc + 1) ∨ (decode cc pc = .ok (.lload a, 2) ∧ nx = pc + 2))) ∨
   (b = 2 ∧ ((∃ k : Fin 4, (k : Nat) = a ∧ decode cc pc = .ok (.aload_n k, 1) ∧ nx = pc + 1) ∨ (decode cc pc = .ok (.aload a, 2) ∧ nx = pc + 2))))
theorem zo_load (hx : p.tables.exec = Jvm.exec) (hb : c.code = cc) (h0 : ∀ o, P o → o.1 = 1) {ih : zK} (hih : zIh p l e R s m args below meth c Q nL D ρ b0 B0 mc ms P ih) {pc L a b nx : Nat} {st : List Nat} {M : zM}
    (hd : zd_load cc nL pc a b nx) (hg : zgood P (z_load ih pc L st M a b nx)) : zWk p l e R s m args below meth c Q nL D ρ b0 B0 mc ms P pc L st M := by
  intro H locs cells slots ls hI hl
  unfold z_load at hg
  rw [frc_eq] at hg
  obtain ⟨hk, hg⟩ := zgc h0 hg
  have hk := zbeq_t hk
  obtain ⟨ha, hd⟩ := hd
  have kk := hih nx L _ M hg H locs cells slots ls hI hl
  rw [List.map_cons] at kk
  rcases hd with ⟨rfl, hd⟩ | ⟨rfl, hd⟩ | ⟨rfl, hd⟩
  · have hv := zLs_at hl ha (by omega)
    rw [zv_i hk] at hv kk
    rcases hd with ⟨k, hka, hd, rfl⟩ | ⟨hd, rfl⟩
    · exact lv_iload_n hx hb hd hka hv kk
    · exact lv_iload hx hb hd hv kk
  · have hv := zLs_at hl ha (by omega)
    rw [zv_l hk] at hv kk
    rcases hd with ⟨k, hka, hd, rfl⟩ | ⟨hd, rfl⟩
    · exact lv_lload_n hx hb hd hka hv kk
    · exact lv_lload hx hb hd hv kk
  · have hv := zLs_at hl ha (by omega)
    rw [zv_r (by omega)] at hv kk
    rcases hd with ⟨k, hka, hd, rfl⟩ | ⟨hd, rfl⟩
    · cases hr : zvr (zα b0 B0) (bget L a) with
      | none => rw [hr] at hv kk; exact lv_aload_nN hx hb hd hka hv kk
      | some x => rw [hr] at hv kk; exact lv_aload_n hx hb hd hka hv kk
    · cases hr : zvr (zα b0 B0) (bget L a) with
      | none => rw [hr] at hv kk; exact lv_aloadN hx hb hd hv kk
      | some x => rw [hr] at hv kk; exact lv_aload hx hb hd hv kk
/-- of a store -/
def zd_store (cc : ByteArray) (nL pc a b nx : Nat) : Prop := a < nL ∧
  ((b = 0 ∧ ((∃ k : Fin 4, (k : Nat) = a ∧ decode cc pc = .ok (.istore_n k, 1) ∧ nx = pc + 1) ∨ (decode cc pc = .ok (.istore a, 2) ∧ nx = pc + 2))) ∨
   (b = 2 ∧ ((∃ k : Fin 4, (k : Nat) = a ∧ decode cc pc = .ok (.astore_n k, 1) ∧ nx = pc + 1) ∨ (decode cc pc = .ok (.astore a, 2) ∧ nx = pc + 2))))
theorem zo_store (hx : p.tables.exec = Jvm.exec) (hb : c.code = cc) (h0 : ∀ o, P o → o.1 = 1) {ih : zK} (hih : zIh p l e R s m args below meth c Q nL D ρ b0 B0 mc ms P ih) {pc L a b nx : Nat} {st : List Nat} {M : zM}
    (hd : zd_store cc nL pc a b nx) (hg : zgood P (z_store ih pc L st M a b nx)) : zWk p l e R s m args below meth c Q nL D ρ b0 B0 mc ms P pc L st M := by
  intro H locs cells slots ls hI hl
  unfold z_store at hg
  obtain ⟨v, r, rfl, hg⟩ := zgl h0 hg
  unfold z_store1 at hg
  obtain ⟨hk, hg⟩ := zgc h0 hg
  have hk := zbeq_t hk
  obtain ⟨hn, hg⟩ := z_noL_ok h0 hg
  rw [frc_eq] at hg
  obtain ⟨ha, hd⟩ := hd
  rw [List.map_cons]
  have hv : v < 4722366482869645213696 := by rw [zkd_eq] at hk; omega
  have kk := fun ls' hl' => hih nx (bset L a v) r M hg H locs cells slots ls' hI hl'
  rcases hd with ⟨rfl, hd⟩ | ⟨rfl, hd⟩
  · rcases hd with ⟨k, hka, hd, rfl⟩ | ⟨hd, rfl⟩
    · rw [zv_i hk]
      exact lv_istore_n hx hb hd hka hl ha rfl (fun ls' hl' => kk ls' (zLs_st1 hv hn (by rw [zv_i hk]; exact hl')))
    · rw [zv_i hk]
      exact lv_istore hx hb hd hl ha rfl (fun ls' hl' => kk ls' (zLs_st1 hv hn (by rw [zv_i hk]; exact hl')))
  · rcases hd with ⟨k, hka, hd, rfl⟩ | ⟨hd, rfl⟩
    · cases hr : zvr (zα b0 B0) v with
      | none =>
        have e : zv ρ (zα b0 B0) v = .null := by rw [zv_r (by omega), hr]; rfl
        rw [e]
        exact lv_astore_nN hx hb hd hka hl ha rfl (fun ls' hl' => kk ls' (zLs_st1 hv hn (by rw [e]; exact hl')))
      | some x =>
        have e : zv ρ (zα b0 B0) v = .ref x := by rw [zv_r (by omega), hr]; rfl
        rw [e]
        exact lv_astore_n hx hb hd hka hl ha rfl (fun ls' hl' => kk ls' (zLs_st1 hv hn (by rw [e]; exact hl')))
    · cases hr : zvr (zα b0 B0) v with
      | none =>
        have e : zv ρ (zα b0 B0) v = .null := by rw [zv_r (by omega), hr]; rfl
        rw [e]
        exact lv_astoreN hx hb hd hl ha rfl (fun ls' hl' => kk ls' (zLs_st1 hv hn (by rw [e]; exact hl')))
      | some x =>
        have e : zv ρ (zα b0 B0) v = .ref x := by rw [zv_r (by omega), hr]; rfl
        rw [e]
        exact lv_astore hx hb hd hl ha rfl (fun ls' hl' => kk ls' (zLs_st1 hv hn (by rw [e]; exact hl')))
def zd_lstore (cc : ByteArray) (nL pc a nx : Nat) : Prop := a + 1 < nL ∧
  ((∃ k : Fin 4, (k : Nat) = a ∧ decode cc pc = .ok (.lstore_n k, 1) ∧ nx = pc + 1) ∨ (decode cc pc = .ok (.lstore a, 2) ∧ nx = pc + 2))
theorem zo_lstore (hx : p.tables.exec = Jvm.exec) (hb : c.code = cc) (h0 : ∀ o, P o → o.1 = 1) {ih : zK} (hih : zIh p l e R s m args below meth c Q nL D ρ b0 B0 mc ms P ih) {pc L a b nx : Nat} {st : List Nat} {M : zM}
    (hd : zd_lstore cc nL pc a nx) (hg : zgood P (z_lstore ih pc L st M a b nx)) : zWk p l e R s m args below meth c Q nL D ρ b0 B0 mc ms P pc L st M := by
  intro H locs cells slots ls hI hl
  unfold z_lstore at hg
  obtain ⟨v, r, rfl, hg⟩ := zgl h0 hg
  unfold z_lstore1 at hg
  obtain ⟨hk, hg⟩ := zgc h0 hg
  have hk := zbeq_t hk
  obtain ⟨hn, hg⟩ := z_noL_ok h0 hg
  rw [frc_eq] at hg
  obtain ⟨ha, hd⟩ := hd
  rw [List.map_cons, zv_l hk]
  have hv : v < 4722366482869645213696 := by rw [zkd_eq] at hk; omega
  have kk := fun ls' hl' => hih nx _ r M hg H locs cells slots ls' hI hl'
  rcases hd with ⟨k, hka, hd, rfl⟩ | ⟨hd, rfl⟩
  · exact lv_lstore_n hx hb hd hka hl ha rfl (fun ls' hl' => kk ls' (zLs_st2 hv hn (by rw [zv_l hk]; exact hl')))
  · exact lv_lstore hx hb hd hl ha rfl (fun ls' hl' => kk ls' (zLs_st2 hv hn (by rw [zv_l hk]; exact hl')))
def zd_iinc (cc : ByteArray) (nL pc a b nx : Nat) : Prop := a < nL ∧ nx = pc + 3 ∧ ∃ n : Int, decode cc pc = .ok (.iinc a n, 3) ∧ Int32.ofInt n = Int32.ofNat b
theorem zo_iinc (hx : p.tables.exec = Jvm.exec) (hb : c.code = cc) (h0 : ∀ o, P o → o.1 = 1) {ih : zK} (hih : zIh p l e R s m args below meth c Q nL D ρ b0 B0 mc ms P ih) {pc L a b nx : Nat} {st : List Nat} {M : zM}
    (hd : zd_iinc cc nL pc a b nx) (hg : zgood P (z_iinc ih pc L st M a b nx)) : zWk p l e R s m args below meth c Q nL D ρ b0 B0 mc ms P pc L st M := by
  intro H locs cells slots ls hI hl
  unfold z_iinc at hg
  rw [frc_eq] at hg
  unfold z_iinc2 at hg
  obtain ⟨r1, r2⟩ := zrs_ok (α := zα b0 B0) hI.1 (bget L a)
  obtain ⟨ha, rfl, n, hd, hn⟩ := hd
  rcases zgi hg with ⟨h1, hg⟩ | ⟨-, hg⟩
  · have h1 := zble_t h1
    obtain ⟨hno, hg⟩ := z_noL_ok h0 hg
    rw [frc_eq] at hg
    have hk : zkd (bget L a) = 0 := by rw [← r2, zkd_eq]; omega
    have hk2 : zkd (zrs M.1 (bget L a)) = 0 := by rw [r2, hk]
    have hv := zLs_at hl ha (by omega)
    have hv2 : bget L a = bget L a := rfl
    have e1 : zv ρ (zα b0 B0) (bget L a) = .int (Int32.ofNat (zrs M.1 (bget L a))) := by rw [← r1, zv_i hk2, zvi_lo h1]
    have hmem : (a, Value.int (Int32.ofNat (zrs M.1 (bget L a)))) ∈ zLs ρ (zα b0 B0) nL L := zLs_mem.mpr ⟨ha, by show zkd (bget L a) ≤ 2; omega, e1.symm⟩
    obtain ⟨k, hk3⟩ := List.getElem?_of_mem hmem
    have hlt : Nat.mod (Nat.add (zrs M.1 (bget L a)) b) 4294967296 < 4294967296 := Nat.mod_lt _ (by decide)
    have e2 : zv ρ (zα b0 B0) (Nat.mod (Nat.add (zrs M.1 (bget L a)) b) 4294967296) = .int (Int32.ofNat (zrs M.1 (bget L a)) + Int32.ofNat b) := by
      rw [zv_i (by rw [zkd_eq]; omega), zvi_lo (by omega)]
      exact congrArg Value.int (zn0 _ _)
    refine lv_iinc hx hb hd hl hk3 (v := Int32.ofNat (zrs M.1 (bget L a)) + Int32.ofNat b) (by rw [hn]) ha rfl (fun ls' hl' => ?_)
    refine hih _ _ st M hg H locs cells slots ls' hI (zLs_st1 (by omega) hno ?_)
    rw [e2]
    exact hl'
  · obtain ⟨-, hg⟩ := zgc h0 hg
    obtain ⟨-, hg⟩ := zgc h0 hg
    obtain ⟨S1, hs1, hg⟩ := zsp_in h0 hg hI.1
    exact hih _ _ st _ hg H locs cells slots ls (hI.S hs1) hl
end ZOPS
