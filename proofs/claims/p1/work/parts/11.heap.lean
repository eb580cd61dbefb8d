/-! Cells read and written, against the machine -/
/-- a class of the table -/
def zClOK (ci : Nat) (C : String) (T : u_T) (N : Nat) (ty : Nat → FieldType) : Prop :=
  vwCl[ci]? = some (C, T, N) ∧ (∀ w ∈ u_ws C T N, w ∈ zGW) ∧ (∀ k, k < N → parseFieldDescriptor (T k).2.2.1 = some (ty k)) ∧ ∀ a, a < N → ∀ b, b < N → a ≠ b → (T a).2.1 ≠ (T b).2.1
section ZHEAP
variable {p : Program} {l : Launch} {e : Env} {R : Room} {s : State} {m : MethodId} {args : Array Value} {below : List Frame} {meth : Method} {c : Code} {Q : State → Prop}
variable {cc : ByteArray} {nL : Nat} {D : va_G} {ρ : Nat → Int} {b0 B0 mc ms : Nat} {P : zO → Prop}
variable {H : Heap} {locs : List Loc} {cells slots : Nat} {ls : Array Slot} {rest : List Value} {pc : Nat} {h : zH} {len : Nat}
/-- what HR says, taken apart for the cell q -/
def zAt (D : va_G) (ρ : Nat → Int) (b0 B0 : Nat) (s : State) (H : Heap) (h : zH) (len : Nat) (ws : va_W) (tys : List (ClassId × FieldType)) : Prop :=
  va_K D vwCl tys s ∧ va_P D vwCl ws H ∧ va_D (fun q => B0 ≤ q) ws ∧ ws.length + 1 = len ∧
    (∀ (k : Nat) (q : Nat × va_E), ws[k]? = some q → q.1 = B0 + k ∧ zCl ρ (zα b0 B0) tys (hget h (k + 1)) q.2) ∧ H.size = B0 + ws.length ∧ zScr ρ b0 B0 s H (hget h 0) ∧
    zsh h ∧ len ≤ 127 ∧ (∀ q, len ≤ q → (hget h q).1 = 99) ∧ ∀ q, (hget h q).2.1 ≤ 60000
theorem zAt_cell {ws : va_W} {tys : List (ClassId × FieldType)} (hA : zAt D ρ b0 B0 s H h len ws tys) {q : Nat} (h1 : q ≠ 0) (h2 : (hget h q).1 ≠ 99) : ∃ e, ws[q - 1]? = some (zα b0 B0 q, e) ∧ zCl ρ (zα b0 B0) tys (hget h q) e := by
  obtain ⟨-, -, -, a4, a5, -, -, -, -, a10, -⟩ := hA
  have hl : q < len := by
    rcases Nat.lt_or_ge q len with g | g
    · exact g
    · exact absurd (a10 q g) h2
  have hk : q - 1 < ws.length := by omega
  have g := List.getElem?_eq_getElem hk
  obtain ⟨g1, g2⟩ := a5 _ _ g
  rw [show q - 1 + 1 = q by omega] at g2
  refine ⟨ws[q - 1].2, ?_, g2⟩
  rw [g]
  have e1 : ws[q - 1].1 = zα b0 B0 q := by rw [g1]; unfold zα; rw [if_neg h1]
  rw [← e1]
theorem zAt_obj {ws : va_W} {tys : List (ClassId × FieldType)} (hA : zAt D ρ b0 B0 s H h len ws tys) {q ci : Nat} (h2 : (hget h q).1 = ci) (h3 : ci < 13) :
    q ≠ 0 ∧ ∃ (fs : List Value) (r : vw_C), ws[q - 1]? = some (zα b0 B0 q, .inr (ci, fs)) ∧ vwCl[ci]? = some r ∧ (hget h q).2.1 = r.2.2 ∧ fs.length = (hget h q).2.1 ∧ ∀ k, k < (hget h q).2.1 → fs[k]? = some (zv ρ (zα b0 B0) (bget (hget h q).2.2 k)) := by
  have h1 : q ≠ 0 := by
    rintro rfl
    have := hA.2.2.2.2.2.2.1.1
    omega
  obtain ⟨e, g1, g2⟩ := zAt_cell hA h1 (by omega)
  refine ⟨h1, ?_⟩
  rcases g2 with ⟨fs, r, e1, -, e3, e4, e5, e6⟩ | ⟨_, _, _, e1, -⟩ | ⟨_, _, _, e1, -⟩ | ⟨_, _, _, e1, -⟩ | ⟨_, _, _, e1, -⟩ | ⟨_, _, _, _, _, e1, -⟩
  · rw [e1, h2] at g1
    rw [h2] at e3
    exact ⟨fs, r, g1, e3, e4, e5, e6⟩
  all_goals omega
/-- a reference that is one -/
theorem zrf_ok (h0 : ∀ o, P o → o.1 = 1) {r : Nat} {k : Nat → List zO} (hg : zgood P (zrf r k)) : ∃ q, zv ρ (zα b0 B0) r = .ref (zα b0 B0 q) ∧ zgood P (k q) ∧ q = r - 73786976294838206464 ∧ 73786976294838206464 ≤ r ∧ r < 92233720368547758080 := by
  unfold zrf at hg
  obtain ⟨g1, hg⟩ := zgc h0 hg
  obtain ⟨g2, hg⟩ := zgcn h0 hg
  have g1 := zble_t g1
  have g2 := zble_f g2
  rw [frc_eq, zsub] at hg
  exact ⟨_, zv_ref g1 g2, hg, rfl, g1, g2⟩
def zd_getf (cc : ByteArray) (own : String) (pc a b nx : Nat) : Prop := nx = pc + 3 ∧ a < 13 ∧ ∃ (i : Nat) (C : String) (T : u_T) (N : Nat) (ty : Nat → FieldType), decode cc pc = .ok (.getfield i, 3) ∧ zClOK a C T N ty ∧ b < N ∧ (T b).1 = C ∧ Cond.fieldLink own i C (T b).2.1 (T b).2.2.1 ∈ zGW
theorem zo_getf (hx : p.tables.exec = Jvm.exec) (hb : c.code = cc) (h0 : ∀ o, P o → o.1 = 1) {own : String} (hown : s.vm.findClass own = some m.cls) (hw : ∀ w ∈ zGW, w.before args s = true) {ih : zK} (hih : zIh p l e R s m args below meth c Q nL D ρ b0 B0 mc ms P ih) {pc L a b nx : Nat} {st : List Nat} {M : zM}
    (hd : zd_getf cc own pc a b nx) (hg : zgood P (z_getf ih pc L st M a b nx)) : zWk p l e R s m args below meth c Q nL D ρ b0 B0 mc ms P pc L st M := by
  intro H locs cells slots ls hI hl
  unfold z_getf at hg
  obtain ⟨r, rest, hst, hg1⟩ := zgl h0 hg
  subst hst
  clear hg
  obtain ⟨q, er, hg, -, -, -⟩ := zrf_ok (ρ := ρ) (b0 := b0) (B0 := B0) h0 hg1
  unfold z_getf1 at hg
  obtain ⟨k1, hg⟩ := zgc h0 hg
  have k1 := zbeq_t k1
  rw [frc_eq] at hg
  obtain ⟨rfl, ha, i, C, T, N, ty, hd, ⟨c1, c2, c3, c4⟩, hbN, hTb, hlk⟩ := hd
  obtain ⟨ws, tys, hA⟩ := id hI.2.1
  obtain ⟨-, fs, r0, g1, g2, g3, g4, g5⟩ := zAt_obj hA k1 ha
  rw [c1] at g2
  cases g2
  have kk := hih _ L _ M hg H locs cells slots ls hI hl
  rw [List.map_cons] at kk
  rw [List.map_cons, er]
  exact va_get (Ts := zGW) (C := C) (T := T) (N := N) (ref := C) hx hb hw c2 hown hA.1 hA.2.1 (q - 1) g1 c1 b hbN (hw _ hlk) (fun _ z => by rw [hTb] at z; exact z) (g5 b (by rw [g3]; exact hbN)) hd kk
/-- a cell changed -/
theorem zHR_set {ws : va_W} {tys : List (ClassId × FieldType)} (hA : zAt D ρ b0 B0 s H h len ws tys) {q : Nat} {e0 e1 : va_E} {H1 : Heap} {cn : zC} (h1 : q ≠ 0) (hp : ws[q - 1]? = some (zα b0 B0 q, e0)) (he : va_at D vwCl (zα b0 B0 q, e1) H1)
    (hz : H1.size = H.size) (oq : ∀ x : Nat, x ≠ zα b0 B0 q → H1[x]? = H[x]?) (hc : zCl ρ (zα b0 B0) tys cn e1) (hs : cn.2.1 ≤ 60000) : zHR D ρ b0 B0 s H1 (hs2 h q cn) len := by
  obtain ⟨a1, a2, a3, a4, a5, a6, ⟨b1, b2, f, b3, b4⟩, a8, a9, a10, a11⟩ := hA
  have hl := (List.getElem?_eq_some_iff.mp hp).1
  have hq : q < 128 := by omega
  refine ⟨ws.set (q - 1) (zα b0 B0 q, e1), tys, a1, a2.set a3 hp he oq, a3.set hp, by rw [List.length_set]; exact a4, ?_, by rw [List.length_set, hz]; exact a6, ?_, zsh_set a8 hq cn, a9, ?_, ?_⟩
  · intro k x hk
    rw [hget_hs2 a8 hq]
    by_cases e : k = q - 1
    · subst e
      rw [List.getElem?_set_self hl] at hk
      cases hk
      rw [if_pos (by omega)]
      refine ⟨?_, hc⟩
      show zα b0 B0 q = _
      unfold zα
      rw [if_neg h1]
    · rw [List.getElem?_set_ne (fun z => e z.symm)] at hk
      rw [if_neg (by omega)]
      exact a5 k x hk
  · rw [hget_hs2 a8 hq, if_neg (fun z => h1 z.symm)]
    refine ⟨b1, b2, f, va_X.kept b3 (oq b0 ?_), b4⟩
    unfold zα
    rw [if_neg h1]
    omega
  · intro x hx
    rw [hget_hs2 a8 hq, if_neg (by omega)]
    exact a10 x hx
  · intro x
    rw [hget_hs2 a8 hq]
    split
    · exact hs
    · exact a11 x
/-- a new cell -/
theorem zHR_new {ws : va_W} {tys tys1 : List (ClassId × FieldType)} (hA : zAt D ρ b0 B0 s H h len ws tys) {e1 : va_E} {H1 : Heap} {cn : zC} (hK : va_K D vwCl tys1 s) (ht : ∀ (k : Nat) (x : ClassId × FieldType), tys[k]? = some x → tys1[k]? = some x) (hlen : len ≤ 126) (he : va_at D vwCl (H.size, e1) H1)
    (hz : H1.size = H.size + 1) (oq : ∀ x : Nat, x < H.size → H1[x]? = H[x]?) (hc : zCl ρ (zα b0 B0) tys1 cn e1) (hs : cn.2.1 ≤ 60000) : zHR D ρ b0 B0 s H1 (hs2 h len cn) (len + 1) ∧ zα b0 B0 len = H.size := by
  obtain ⟨a1, a2, a3, a4, a5, a6, ⟨b1, b2, f, b3, b4⟩, a8, a9, a10, a11⟩ := hA
  have hq : len < 128 := by omega
  have hα : zα b0 B0 len = H.size := by unfold zα; rw [if_neg (by omega), a6]; omega
  have up : ∀ (cz : zC) (ez : va_E), zCl ρ (zα b0 B0) tys cz ez → zCl ρ (zα b0 B0) tys1 cz ez := by
    intro cz ez hz
    rcases hz with g | ⟨cA, t0, f, g1, g2, g3, g4⟩ | ⟨cA, t0, f, g1, g2, g3, g4⟩ | ⟨cA, t0, f, g1, g2, g3, g4⟩ | ⟨cA, t0, f, g1, g2, g3⟩ | ⟨cA, t0, ci, r, f, g1, g2, g3, g4, g5⟩
    · exact Or.inl g
    · exact Or.inr (Or.inl ⟨cA, t0, f, g1, g2, ht _ _ g3, g4⟩)
    · exact Or.inr (Or.inr (Or.inl ⟨cA, t0, f, g1, g2, ht _ _ g3, g4⟩))
    · exact Or.inr (Or.inr (Or.inr (Or.inl ⟨cA, t0, f, g1, g2, ht _ _ g3, g4⟩)))
    · exact Or.inr (Or.inr (Or.inr (Or.inr (Or.inl ⟨cA, t0, f, g1, g2, ht _ _ g3⟩))))
    · exact Or.inr (Or.inr (Or.inr (Or.inr (Or.inr ⟨cA, t0, ci, r, f, g1, g2, g3, ht _ _ g4, g5⟩))))
  refine ⟨⟨ws ++ [(H.size, e1)], tys1, hK, (a2.kept (fun k x hx => oq x.1 (a2 k x hx).lt)).app (fun k x hx => ?_), a3.push a2 rfl (by show B0 ≤ H.size; omega), by rw [List.length_append]; show ws.length + 1 + 1 = _; omega, ?_, ?_, ?_, zsh_set a8 hq cn, by omega, ?_, ?_⟩, hα⟩
  · have hz : k < 1 := (List.getElem?_eq_some_iff.mp hx).1
    rw [show k = 0 by omega] at hx
    cases hx
    exact he
  · intro k x hk
    rw [hget_hs2 a8 hq]
    by_cases hkl : k < ws.length
    · rw [List.getElem?_append_left hkl] at hk
      rw [if_neg (by omega)]
      obtain ⟨g1, g2⟩ := a5 k x hk
      exact ⟨g1, up _ _ g2⟩
    · rw [List.getElem?_append_right (by omega)] at hk
      have hz : k - ws.length < 1 := (List.getElem?_eq_some_iff.mp hk).1
      have hk0 : k = ws.length := by omega
      subst hk0
      rw [Nat.sub_self] at hk
      cases hk
      rw [if_pos (by omega)]
      exact ⟨a6, hc⟩
  · rw [hz, a6, List.length_append]
    show _ = B0 + (ws.length + 1)
    omega
  · rw [hget_hs2 a8 hq, if_neg (by omega)]
    exact ⟨b1, b2, f, va_X.kept b3 (oq b0 (by omega)), b4⟩
  · intro x hx
    rw [hget_hs2 a8 hq, if_neg (by omega)]
    exact a10 x (by omega)
  · intro x
    rw [hget_hs2 a8 hq]
    split
    · exact hs
    · exact a11 x
/-- a field written -/
theorem zw_put (hx : p.tables.exec = Jvm.exec) (hb : c.code = cc) {own : String} (hown : s.vm.findClass own = some m.cls) (hw : ∀ w ∈ zGW, w.before args s = true) {ci : Nat} {C : String} {T : u_T} {N : Nat} {ty : Nat → FieldType} (hC : zClOK ci C T N ty) {ws : va_W} {tys : List (ClassId × FieldType)} (hK : va_K D vwCl tys s) (hP : va_P D vwCl ws H)
    {q0 a : Nat} {fs : List Value} (he : ws[q0]? = some (a, .inr (ci, fs))) {k i : Nat} (hk : k < N) (hlk : Cond.fieldLink own i C (T k).2.1 (T k).2.2.1 ∈ zGW) (hTk : (T k).1 = C) (hfin : (T k).2.2.2 = false ∨ ((T k).2.2.2 = true ∧ meth.name = "<init>" ∧ C = own)) {v : Value} (hn : narrow (ty k) v = v) (hfit : fits (ty k) v = true) (hl : k < fs.length)
    (hd : decode cc pc = .ok (.putfield i, 3)) (kk : ∀ H' : Heap, va_at D vwCl (a, .inr (ci, fs.set k v)) H' → H'.size = H.size → (∀ q, q ≠ a → H'[q]? = H[q]?) → W p l e R s m args below meth c H' (locs ++ [⟨a, D.2 ci k⟩]) cells slots Q (F0 m (pc + 3) ls rest)) :
    W p l e R s m args below meth c H locs cells slots Q (F0 m pc ls (v :: .ref a :: rest)) := by
  obtain ⟨c1, c2, c3, c4⟩ := hC
  have hap := va_apart (own := own) (Ts := zGW) hw c2 ty c3 c4 hK c1
  obtain ⟨r, h1, cell, q1, q2, q3, q4⟩ := hP q0 _ he
  have hr : r = (C, T, N) := Option.some.inj (h1.symm.trans c1)
  subst hr
  obtain ⟨hS, hfc, kC, hkC, hkind⟩ := hK.1 ci _ c1
  obtain ⟨cf, kf, fi, f, hi, hsl⟩ := hS k hk
  have hst := (u_facts hfc hkC (u_lays hw c2 hk) hi).1
  have hi2 : s.fieldFound? C (T k).2.1 (T k).2.2.1 = some (cf, kf, fi, f) := by rw [hTk] at hi; exact hi
  have fin : ∀ H' : Heap, H'[a]? = some (cell.setSlot (D.2 ci k) v) → H'.size = H.size → (∀ q, q ≠ a → H'[q]? = H[q]?) → W p l e R s m args below meth c H' (locs ++ [⟨a, D.2 ci k⟩]) cells slots Q (F0 m (pc + 3) ls rest) := by
    intro H' g1 g2 g3
    exact kk H' ⟨_, c1, t_OB.to (V := updV (vp_V fs) k v) ⟨_, g1, q2, q3, t_set q4 hap hk v⟩ (fun j _ => vp_updV_set hl v j)⟩ g2 g3
  have hlay := hw _ (c2 _ (u_in_lay hk))
  unfold u_lay at hlay
  rcases hfin with hfin | ⟨hfin, hini, hCo⟩
  · rw [if_neg (by rw [hfin]; decide)] at hlay
    have h6 := u_store hfc hkC hkind hlay hi (c3 k hk) hn hfit
    refine W.putK hx hb (f := f) ⟨hown, hw _ hlk, ⟨_, _, _, hi2⟩, hst⟩ (by rw [q2]; exact h6) q1 q3 (by rw [hsl]; exact k2_hasslot (q4 k hk)) rfl rfl hd fun H' g1 g2 g3 => ?_
    rw [hsl] at g1 ⊢
    exact fin H' g1 g2 g3
  · rw [if_pos hfin] at hlay
    have hcf : m.cls = cf := by
      obtain ⟨_, _, c', _, _, _, -, -, hf', -, -, -, hown2, -⟩ := Cond.laysFinal_spec hlay
      have e1 : c' = cf := by have := hi.symm.trans hf'; simp at this; exact this.1.symm
      rw [hTk, hCo] at hown2
      rw [← e1]; exact Option.some.inj (hown.symm.trans hown2)
    have h6 := u_fits hfc hkC hkind (Or.inr hlay) hi (c3 k hk) hn hfit
    refine W.putFinK hx hb hown (hw _ hlk) hi2 hst hcf hini (by rw [q2]; exact h6) q1 q3 (by rw [hsl]; exact k2_hasslot (q4 k hk)) rfl rfl hd fun H' g1 g2 g3 => ?_
    rw [hsl] at g1 ⊢
    exact fin H' g1 g2 g3
/-- kinds of fields -/
def zfk (t : Nat) (ty : FieldType) : Prop := (t = 0 ∧ ty = .int) ∨ (t = 1 ∧ ty = .long) ∨ (t = 2 ∧ ((∃ n, ty = .object n) ∨ ∃ n, ty = .array n)) ∨ (t = 3 ∧ ty = .boolean)
theorem zfit_ok {t v : Nat} {ty : FieldType} (ht : zfk t ty) (hf : zfit t v = true) : v < 4722366482869645213696 ∧ narrow ty (zv ρ (zα b0 B0) v) = zv ρ (zα b0 B0) v ∧ fits ty (zv ρ (zα b0 B0) v) = true := by
  rcases ht with ⟨rfl, rfl⟩ | ⟨rfl, rfl⟩ | ⟨rfl, ht⟩ | ⟨rfl, rfl⟩
  · have k := zbeq_t (show Nat.beq (zkd v) 0 = true from hf)
    rw [zv_i k]
    rw [zkd_eq] at k
    exact ⟨by omega, rfl, rfl⟩
  · have k := zbeq_t (show Nat.beq (zkd v) 1 = true from hf)
    rw [zv_l k]
    rw [zkd_eq] at k
    exact ⟨by omega, rfl, rfl⟩
  · have k := zbeq_t (show Nat.beq (zkd v) 2 = true from hf)
    rw [zv_r (by omega)]
    rw [zkd_eq] at k
    refine ⟨by omega, ?_⟩
    rcases ht with ⟨n, rfl⟩ | ⟨n, rfl⟩ <;> cases zvr (zα b0 B0) v <;> exact ⟨rfl, rfl⟩
  · have k := zble_t (show Nat.ble v 1 = true from hf)
    rcases (show v = 0 ∨ v = 1 by omega) with rfl | rfl
    · rw [zv_lo (by decide)]; exact ⟨by decide, by decide, by decide⟩
    · rw [zv_lo (by decide)]; exact ⟨by decide, by decide, by decide⟩
def zd_putf (cc : ByteArray) (own yn : String) (pc a b nx : Nat) : Prop := nx = pc + 3 ∧ a % 32 < 13 ∧ ∃ (i : Nat) (C : String) (T : u_T) (N : Nat) (ty : Nat → FieldType), decode cc pc = .ok (.putfield i, 3) ∧ zClOK (a % 32) C T N ty ∧ b < N ∧ (T b).1 = C ∧ Cond.fieldLink own i C (T b).2.1 (T b).2.2.1 ∈ zGW ∧
  ((T b).2.2.2 = false ∨ ((T b).2.2.2 = true ∧ yn = "<init>" ∧ C = own)) ∧ zfk (a / 32) (ty b)
theorem zo_putf (hx : p.tables.exec = Jvm.exec) (hb : c.code = cc) (h0 : ∀ o, P o → o.1 = 1) {own yn : String} (hyn : meth.name = yn) (hown : s.vm.findClass own = some m.cls) (hw : ∀ w ∈ zGW, w.before args s = true) {ih : zK} (hih : zIh p l e R s m args below meth c Q nL D ρ b0 B0 mc ms P ih) {pc L a b nx : Nat} {st : List Nat} {M : zM}
    (hd : zd_putf cc own yn pc a b nx) (hg : zgood P (z_putf ih pc L st M a b nx)) : zWk p l e R s m args below meth c Q nL D ρ b0 B0 mc ms P pc L st M := by
  intro H locs cells slots ls hI hl
  unfold z_putf at hg
  obtain ⟨v, r1, hst, hg1⟩ := zgl h0 hg
  subst hst
  clear hg
  obtain ⟨r, rest, hst, hg2⟩ := zgl h0 hg1
  subst hst
  clear hg1
  obtain ⟨q, er, hg, -, -, -⟩ := zrf_ok (ρ := ρ) (b0 := b0) (B0 := B0) h0 hg2
  unfold z_putf1 at hg
  rw [zmod, zdiv] at hg
  obtain ⟨k1, hg⟩ := zgc h0 hg
  have k1 := zbeq_t k1
  obtain ⟨k2, hg⟩ := zgc h0 hg
  rw [frc_eq, hset_eq] at hg
  obtain ⟨rfl, ha, i, C, T, N, ty, hd, hC, hbN, hTb, hlk, hfin, hty⟩ := hd
  have hC1 := hC
  obtain ⟨c1, -⟩ := hC1
  obtain ⟨ws, tys, hA⟩ := id hI.2.1
  obtain ⟨hq0, fs, r0, g1, g2, g3, g4, g5⟩ := zAt_obj hA k1 ha
  rw [c1] at g2
  cases g2
  obtain ⟨f1, f2, f3⟩ := zfit_ok (ρ := ρ) (b0 := b0) (B0 := B0) hty k2
  rw [List.map_cons, List.map_cons, er]
  refine zw_put hx hb hown hw hC hA.1 hA.2.1 g1 hbN hlk hTb (by rw [hyn]; exact hfin) f2 f3 (by rw [g4, g3]; exact hbN) hd fun H' z1 z2 z3 => ?_
  have hs60 := hA.2.2.2.2.2.2.2.2.2.2 q
  refine hih _ L rest _ hg H' _ cells slots ls ⟨hI.1, zHR_set hA hq0 g1 z1 z2 z3 (Or.inl ⟨_, _, by rw [← k1], by rw [k1]; exact ha, by rw [k1]; exact c1, g3, by rw [List.length_set]; exact g4, fun k hk => ?_⟩) hs60, hI.2.2.1.put z2 z3 ?_, hI.2.2.2⟩ hl
  · rw [bget_bset f1]
    by_cases e : k = b
    · subst e
      rw [if_pos rfl, List.getElem?_set_self (by rw [g4]; exact hk)]
    · rw [if_neg e, List.getElem?_set_ne (fun z => e z.symm)]
      exact g5 k hk
  · show B0 ≤ zα b0 B0 q
    unfold zα
    rw [if_neg hq0]
    omega
end ZHEAP
