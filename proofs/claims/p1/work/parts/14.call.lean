/-! A copy of an array, calls and returns, against the machine -/
theorem ztake_ok {P : zO → Prop} (h0 : ∀ o, P o → o.1 = 1) {k : List Nat → List Nat → List zO} : ∀ (n : Nat) (acc st : List Nat), zgood P (ztake n acc st k) → ∃ xs r, st = xs ++ r ∧ xs.length = n ∧ (∀ x ∈ xs, x ≤ 110680464442257309695) ∧ zgood P (k (xs.reverse ++ acc) r)
  | 0, acc, st, h => ⟨[], st, rfl, rfl, fun _ h => (by cases h), h⟩
  | n + 1, acc, st, h => by
    have h : zgood P (List.rec (motive := fun _ => List zO) zfail (fun v r _ => cond (Nat.ble v 110680464442257309695) (ztake n (v :: acc) r k) zfail) st) := h
    obtain ⟨v, r, hst, h1⟩ := zgl h0 h
    subst hst
    obtain ⟨hv, h2⟩ := zgc h0 h1
    obtain ⟨xs, r2, e1, e2, e3, e4⟩ := ztake_ok h0 n (v :: acc) r h2
    refine ⟨v :: xs, r2, by rw [e1]; rfl, by rw [List.length_cons, e2], fun x hx => ?_, by rw [List.reverse_cons, List.append_assoc]; exact e4⟩
    rcases List.mem_cons.mp hx with rfl | hx
    · exact zble_t hv
    · exact e3 x hx
theorem zflat_ok {P : zO → Prop} {f : zO → List zO} : ∀ (l : List zO), zgood P (zflat f l) → ∀ o ∈ l, zgood P (f o)
  | [], _, o, ho => by cases ho
  | [x], h, o, ho => by
    rw [List.mem_singleton.mp ho]
    exact h
  | x :: y :: t, h, o, ho => by
    obtain ⟨h1, h2⟩ := zgood_app (show zgood P (zapp (f x) (zflat f (y :: t))) from h)
    rcases List.mem_cons.mp ho with rfl | ho
    · exact h1
    · exact zflat_ok (y :: t) h2 o ho
/-- what a method gives back -/
def zrv (ρ : Nat → Int) (α : Nat → Nat) (v : Nat) : Option Value := if v = 110680464442257309696 then none else some (zv ρ α v)
def zPc (D : va_G) (ρ : Nat → Int) (b0 B0 : Nat) (zn : List Cond) (as : List Nat) (h : zH) (len : Nat) : Array Value → State → Prop := fun v U => v = (as.map (zv ρ (zα b0 B0))).toArray ∧ zHR D ρ b0 B0 U U.heap h len ∧ zZ zn U
def zQc (D : va_G) (ρ : Nat → Int) (b0 B0 : Nat) (outs : List zO) : Array Value → State → Outcome → State → Prop := fun _ st o t =>
  ∃ u ∈ outs, u.1 = 1 ∧ zsat ρ u.2.2.1 ∧ o = .returned (zrv ρ (zα b0 B0) u.2.1) ∧ zHR D ρ b0 B0 t t.heap u.2.2.2.1 u.2.2.2.2 ∧ va_F (fun q => B0 ≤ q) st t
theorem zZ.moved {zn : List Cond} (hzn : ∀ w ∈ zn, ∃ a i x h, w = .methodLinkNest a i x h) {s U : State} (hW : s.WarmedH U.vm) (h : zZ zn s) : zZ zn U := by
  refine ⟨fun w hw => ?_, h.2.1.moved hW.alike, h.2.2.moved hW.alike⟩
  obtain ⟨a, i, x, hh, rfl⟩ := hzn w hw
  exact va_Nw.warmM hW (h.1 _ hw)
theorem zPc_blind {D : va_G} {ρ : Nat → Int} {b0 B0 : Nat} {zn : List Cond} (hzn : ∀ w ∈ zn, ∃ a i x h, w = .methodLinkNest a i x h) {as : List Nat} {h : zH} {len : Nat} : FrameBlind (zPc D ρ b0 B0 zn as h len) := by
  intro a U g mk q
  obtain ⟨q1, q2, q3, q4, q5⟩ := q
  refine ⟨q1, zHR.moved (s := U) (U := U.calling g mk a) (Vm.Alike.refl U.vm) q2, fun w hw => ?_, ?_, ?_⟩
  · obtain ⟨a2, i, x, hh, rfl⟩ := hzn w hw
    exact va_Nw.same (u := U) (U := U.calling g mk a) rfl rfl (q3 _ hw)
  · exact va_AO.moved (u := U) (U := U.calling g mk a) (Vm.Alike.refl U.vm) q4
  · exact va_AO.moved (u := U) (U := U.calling g mk a) (Vm.Alike.refl U.vm) q5
section ZCALL
variable {p : Program} {l : Launch} {e : Env} {R : Room} {s : State} {m : MethodId} {args : Array Value} {below : List Frame} {meth : Method} {c : Code} {Q : State → Prop}
variable {cc : ByteArray} {nL : Nat} {D : va_G} {ρ : Nat → Int} {b0 B0 mc ms : Nat} {P : zO → Prop}
theorem z_go {pc mc1 ms1 : Nat} {ls : Array Slot} {rest st0 : List Value} {a : Array Value} {H : Heap} {locs : List Loc} {cells slots : Nat} {outs : List zO} (hr : va_Run p l e R s m args below meth c H locs cells slots mc1 ms1 (F0 m pc ls st0) rest (zQc D ρ b0 B0 outs a) (fun q => B0 ≤ q)) (hS : va_S (fun q => B0 ≤ q) s.heap H locs)
    (kk : ∀ u ∈ outs, u.1 = 1 → zsat ρ u.2.2.1 → ∀ (H1 : Heap) (locs1 : List Loc), zHR D ρ b0 B0 s H1 u.2.2.2.1 u.2.2.2.2 → va_S (fun q => B0 ≤ q) s.heap H1 locs1 → W p l e R s m args below meth c H1 locs1 (cells + mc1) (slots + ms1) Q (F0 m (pc + 3) ls ((zrv ρ (zα b0 B0) u.2.1).toList ++ rest))) :
    W p l e R s m args below meth c H locs cells slots Q (F0 m pc ls st0) := by
  intro T hT X
  obtain ⟨v, st₀, t, T', L, h0, X', hL, e1, e2, ⟨u, hu, hu1, hus, hv, hh, hz, hk⟩, st⟩ := hr T hT X
  cases hv
  rw [h0] at hz hk
  have hal : s.vm.Alike t.vm := by rw [← e2]; exact X'.warmed.alike
  rw [← e1] at hh hz hk
  obtain ⟨t2, a1, b1⟩ := kk u hu hu1 hus T'.heap (locs ++ L) (zHR.moved hal.symm hh) ⟨Nat.le_trans hS.1 hz, fun q h1 h2 => (hk q (Nat.lt_of_lt_of_le h1 hS.1) h2).trans (hS.2.1 q h1 h2), fun q hq => by
    rcases List.mem_append.mp hq with h | h
    · exact hS.2.2 q h
    · exact hL q h⟩ T' rfl X'
  exact ⟨t2, st t2 a1, b1⟩
/-- which words a method's start has -/
def zws (y : MethodName) (bytes : ByteArray) (maxL : Nat) (ret : Option FieldType) : List Cond := Cond.code y bytes maxL ret :: zGW
theorem zws_good {y : MethodName} {bytes : ByteArray} {maxL : Nat} {ret : Option FieldType} (h : Cond.code y bytes maxL ret ∈ zGW) : GoodIn zGW (zws y bytes maxL ret) := by
  intro w hw
  have hz : w ∈ zGW := by
    rcases List.mem_cons.mp hw with rfl | hw
    · exact h
    · exact hw
  exact ⟨hz, (zGW_good hz).2⟩
def zrm (d mc ms : Nat) : Room := { frames := d, cells := mc, slots := ms, locals := 200 * d }
/-- of a call: y by its kind -/
def zd_call (cc : ByteArray) (own : String) (zn : List Cond) (pc b nx : Nat) (y : MethodName) (bytes : ByteArray) (maxL : Nat) (ret : Option FieldType) : Prop := nx = pc + 3 ∧ Cond.code y bytes maxL ret ∈ zGW ∧ Cond.initialized y.cls ∈ zGW ∧ maxL ≤ 150 ∧ (y.cls ≠ "java/lang/invoke/MethodHandle" ∧ y.cls ≠ "java/lang/invoke/VarHandle") ∧
  ∃ i : Nat, (Cond.methodLink own i y ∈ zGW ∨ ∃ host, Cond.methodLinkNest own i y host ∈ zn) ∧
   ((b / 64 = 0 ∧ decode cc pc = .ok (.invokestatic i, 3) ∧ Cond.static y ∈ zGW ∧ (parseMethodDescriptor y.desc).map (fun d => d.parameters.length) = some (b % 64)) ∨
    (b / 64 = 100 ∧ decode cc pc = .ok (.invokespecial i, 3) ∧ y.name = "<init>" ∧ ret = none ∧ Cond.instanceMethod y ∈ zGW ∧ (parseMethodDescriptor y.desc).map (fun d => d.parameters.length + 1) = some (b % 64)) ∨
    (∃ (ci : Nat) (r : vw_C), b / 64 = ci + 1 ∧ ci < 13 ∧ vwCl[ci]? = some r ∧ r.1 = y.cls ∧ decode cc pc = .ok (.invokevirtual i, 3) ∧ Cond.instanceMethod y ∈ zGW ∧ Cond.selects y.cls y y ∈ zGW ∧ (parseMethodDescriptor y.desc).map (fun d => d.parameters.length + 1) = some (b % 64)))
theorem zo_call (hx : p.tables.exec = Jvm.exec) (hb : c.code = cc) (hml : c.maxLocals = nL) (h0 : ∀ o, P o → o.1 = 1) {own : String} (hown : s.vm.findClass own = some m.cls) (hw : ∀ w ∈ zGW, w.before args s = true) {zn : List Cond} (hzn : ∀ w ∈ zn, ∃ a i x h, w = .methodLinkNest a i x h) (hZ : zZ zn s) {d : Nat} (hR : d + 1 ≤ R.frames ∧ 200 * (d + 1) ≤ R.locals ∧ mc ≤ R.cells ∧ ms ≤ R.slots)
    {ih : zK} (hih : zIh p l e R s m args below meth c Q nL D ρ b0 B0 mc ms P ih) {cal : zCal} {MT : List (List zMt)} {pc L a b nx : Nat} {st : List Nat} {M : zM} {y : MethodName} {bytes : ByteArray} {maxL : Nat} {ret : Option FieldType}
    (hM : ∀ (S : zS) (as : List Nat) (h : zH) (len : Nat), zsat ρ S → (∀ x ∈ as, x ≤ 110680464442257309695) → zgood (fun o => o.1 = 1) (cal a S as h len) → Met l y (zws y bytes maxL ret) (zrm d (zmt MT a).2.2.1 (zmt MT a).2.2.2.1) (zPc D ρ b0 B0 zn as h len) (zQc D ρ b0 B0 (cal a S as h len)) (zmt MT a).2.2.1 (zmt MT a).2.2.2.1 (fun q => B0 ≤ q))
    (hd : zd_call cc own zn pc b nx y bytes maxL ret) (hg : zgood P (z_call cal MT ih pc L st M a b nx)) : zWk p l e R s m args below meth c Q nL D ρ b0 B0 mc ms P pc L st M := by
  intro H locs cells slots ls hI hl
  unfold z_call at hg
  rw [zmod] at hg
  obtain ⟨xs, r, rfl, hxl, hx6, hg⟩ := ztake_ok h0 _ _ _ hg
  rw [List.append_nil] at hg
  generalize zmt MT a = t at hM hg
  obtain ⟨rfl, hcode, hini, hmaxL, hne, i, hlink, hd⟩ := hd
  have hmem : ∀ x ∈ xs.reverse, x ≤ 110680464442257309695 := fun x hx => hx6 x (List.mem_reverse.mp hx)
  -- the call itself
  have go : zgood P (z_call1 ih cal L xs.reverse r M a (pc + 3) t) → (t.2.2.1 ≤ M.2.2.2.1 → t.2.2.2.1 ≤ M.2.2.2.2 → ((r.map (zv ρ (zα b0 B0))).map fun v => v.category).sum ≤ 8 → Met l y (zws y bytes maxL ret) (zrm d t.2.2.1 t.2.2.2.1) (zPc D ρ b0 B0 zn xs.reverse M.2.1 M.2.2.1) (zQc D ρ b0 B0 (cal a M.1 xs.reverse M.2.1 M.2.2.1)) t.2.2.1 t.2.2.2.1 (fun q => B0 ≤ q) →
      ∃ av, va_Run p l e R s m args below meth c H locs cells slots t.2.2.1 t.2.2.2.1 (F0 m pc ls ((xs ++ r).map (zv ρ (zα b0 B0)))) (r.map (zv ρ (zα b0 B0))) (zQc D ρ b0 B0 (cal a M.1 xs.reverse M.2.1 M.2.2.1) av) (fun q => B0 ≤ q)) →
      W p l e R s m args below meth c H locs cells slots Q (F0 m pc ls ((xs ++ r).map (zv ρ (zα b0 B0)))) := by
    intro hg run
    unfold z_call1 at hg
    obtain ⟨g1, hg⟩ := zgc h0 hg
    obtain ⟨g2, hg⟩ := zgc h0 hg
    obtain ⟨g3, hg⟩ := zgc h0 hg
    have g1 := zble_t g1
    have g2 := zble_t g2
    have g3 := zble_t g3
    rw [zwt_eq (ρ := ρ) (b0 := b0) (B0 := B0)] at g1
    rw [frc_eq, frc_eq, zsub, zsub] at hg
    have hall := zflat_ok _ hg
    have hone : zgood (fun o => o.1 = 1) (cal a M.1 xs.reverse M.2.1 M.2.2.1) := by
      intro o ho
      have h := hall o ho
      unfold z_ret at h
      obtain ⟨h1, -⟩ := zgc h0 h
      exact zbeq_t h1
    obtain ⟨av, hrun⟩ := run g2 g3 g1 (hM M.1 xs.reverse M.2.1 M.2.2.1 hI.1 hmem hone)
    refine z_go hrun hI.2.2.1 fun u hu hu1 hus H1 locs1 hh hS => ?_
    have h := hall u hu
    unfold z_ret at h
    obtain ⟨-, h⟩ := zgc h0 h
    obtain ⟨i1, i2, i3, i4, i5⟩ := hI
    have kk := hih _ L _ _ h H1 locs1 (cells + t.2.2.1) (slots + t.2.2.2.1) ls ⟨hus, hh, hS, by show cells + t.2.2.1 + (M.2.2.2.1 - t.2.2.1) = mc; omega, by show slots + t.2.2.2.1 + (M.2.2.2.2 - t.2.2.2.1) = ms; omega⟩ hl
    have e1 : (cond (Nat.beq u.2.1 110680464442257309696) r (u.2.1 :: r)).map (zv ρ (zα b0 B0)) = (zrv ρ (zα b0 B0) u.2.1).toList ++ r.map (zv ρ (zα b0 B0)) := by
      unfold zrv
      cases q : Nat.beq u.2.1 110680464442257309696 with
      | true => rw [if_pos (zbeq_t q)]; rfl
      | false => rw [if_neg (zbeq_f q)]; rfl
    rw [e1] at kk
    exact kk
  have hRm : (zrm d t.2.2.1 t.2.2.2.1).frames + 1 ≤ R.frames ∧ 8 + (maxL + 11) + (zrm d t.2.2.1 t.2.2.2.1).locals ≤ R.locals := by
    refine ⟨hR.1, ?_⟩
    show 8 + (maxL + 11) + 200 * d ≤ _
    have := hR.2.1
    omega
  have hf : t.2.2.1 ≤ M.2.2.2.1 → t.2.2.2.1 ≤ M.2.2.2.2 → cells + t.2.2.1 ≤ R.cells ∧ slots + t.2.2.2.1 ≤ R.slots := by
    intro g2 g3
    obtain ⟨i1, i2, i3, i4, i5⟩ := hI
    have := hR.2.2
    omega
  have hPcU : ∀ U : State, U.heap = H → s.WarmedH U.vm → zPc D ρ b0 B0 zn xs.reverse M.2.1 M.2.2.1 (xs.reverse.map (zv ρ (zα b0 B0))).toArray U := by
    intro U hU hW
    exact ⟨rfl, by rw [hU]; exact zHR.moved hW.alike hI.2.1, hZ.moved hzn hW⟩
  have hsz : (F0 m pc ls ((xs ++ r).map (zv ρ (zα b0 B0)))).locals.size = nL := hl.1
  have hstk : (xs ++ r).map (zv ρ (zα b0 B0)) = (xs.reverse.map (zv ρ (zα b0 B0))).reverse ++ r.map (zv ρ (zα b0 B0)) := by
    rw [List.map_append, List.map_reverse, List.reverse_reverse]
  unfold z_call2 at hg
  rw [zdiv] at hg
  rcases hd with ⟨hb64, hd, hst, hpar⟩ | ⟨hb64, hd, hnm, hret, hinst, hpar⟩ | ⟨ci, r0, hb64, hci, hr0, hrc, hd, hinst, hsel, hpar⟩
  · rw [hb64, show Nat.beq 0 0 = true from rfl, cond_true] at hg
    refine go hg fun g2 g3 gw hMt => ⟨(xs.reverse.map (zv ρ (zα b0 B0))).toArray, ?_⟩
    have hn : (xs.reverse.map (zv ρ (zα b0 B0))).length = b % 64 := by rw [List.length_map, List.length_reverse, hxl]
    rcases hlink with hlk | ⟨host, hlk⟩
    · exact va_runS (Ts := zGW) (own := own) (As := xs.reverse.map (zv ρ (zα b0 B0))) ⟨hx, hb, hml, hown, hw⟩ hMt ⟨callB_of (b % 64) hw (zws_good hcode) rfl rfl rfl (hw _ hini) (hw _ hlk) ⟨hne.1, hne.2, hpar⟩ hRm, hw _ hst⟩ ⟨zPc_blind hzn, hPcU⟩ rfl hn hsz hstk (lv_room gw) hd (hf g2 g3)
    · exact va_runSN (Ts := zGW) (own := own) (As := xs.reverse.map (zv ρ (zα b0 B0))) ⟨hx, hb, hml, hown, hw⟩ hMt ⟨va_cnB (b % 64) hw (zws_good hcode) rfl rfl rfl (hZ.1 _ hlk) (hw _ hini) ⟨hne.1, hne.2, hpar⟩ hRm, hw _ hst, trivial⟩ ⟨zPc_blind hzn, hPcU⟩ rfl hn hsz hstk (lv_room gw) hd (hf g2 g3)
  · rw [hb64, show Nat.beq 100 0 = false from rfl, cond_false] at hg
    obtain ⟨q, er, hg, -, -, -⟩ := zrf_ok (ρ := ρ) (b0 := b0) (B0 := B0) h0 hg
    rw [show Nat.beq 100 100 = true from rfl, cond_true] at hg
    subst hret
    cases hxr : xs.reverse with
    | nil =>
      rw [hxr] at er
      have : zget 0 ([] : List Nat) 0 = 0 := rfl
      rw [this, zv_lo (by decide)] at er
      cases er
    | cons r1 as =>
      rw [hxr] at er hg hPcU hstk go
      have er : zv ρ (zα b0 B0) r1 = .ref (zα b0 B0 q) := er
      rw [List.map_cons, List.reverse_cons, List.append_assoc, er] at hstk
      rw [List.map_cons, er] at hPcU
      have hlen : as.length + 1 = b % 64 := by
        have h9 := congrArg List.length hxr
        rw [List.length_reverse, List.length_cons, hxl] at h9
        exact h9.symm
      have hpar2 : (parseMethodDescriptor y.desc).map (fun d => d.parameters.length) = some as.length := by
        cases hpd : parseMethodDescriptor y.desc with
        | none => rw [hpd] at hpar; cases hpar
        | some dd =>
          rw [hpd] at hpar
          have h9 : dd.parameters.length + 1 = b % 64 := Option.some.inj hpar
          show some dd.parameters.length = _
          rw [show dd.parameters.length = as.length by omega]
      refine go hg fun g2 g3 gw hMt => ⟨(Value.ref (zα b0 B0 q) :: as.map (zv ρ (zα b0 B0))).toArray, ?_⟩
      rcases hlink with hlk | ⟨host, hlk⟩
      · exact va_runI (Ts := zGW) (own := own) (As := as.map (zv ρ (zα b0 B0))) ⟨hx, hb, hml, hown, hw⟩ hMt ⟨callB_of as.length hw (zws_good hcode) rfl rfl rfl (hw _ hini) (hw _ hlk) ⟨hne.1, hne.2, hpar2⟩ hRm, hnm, hw _ hinst⟩ ⟨zPc_blind hzn, hPcU⟩ rfl (by rw [List.length_map]) hsz hstk (lv_room gw) hd (hf g2 g3)
      · exact va_runIN (Ts := zGW) (own := own) (As := as.map (zv ρ (zα b0 B0))) ⟨hx, hb, hml, hown, hw⟩ hMt ⟨va_cnB as.length hw (zws_good hcode) rfl rfl rfl (hZ.1 _ hlk) (hw _ hini) ⟨hne.1, hne.2, hpar2⟩ hRm, hnm, hw _ hinst⟩ ⟨zPc_blind hzn, hPcU⟩ rfl (by rw [List.length_map]) hsz hstk (lv_room gw) hd (hf g2 g3)
  · have hnb : Nat.beq (ci + 1) 0 = false := rfl
    rw [hb64, hnb, cond_false] at hg
    obtain ⟨q, er, hg, -, -, -⟩ := zrf_ok (ρ := ρ) (b0 := b0) (B0 := B0) h0 hg
    have hnb2 : Nat.beq (ci + 1) 100 = false := by
      cases z : Nat.beq (ci + 1) 100 with
      | true => have := zbeq_t z; omega
      | false => rfl
    rw [hnb2, cond_false] at hg
    obtain ⟨hcls, hg⟩ := zgc h0 hg
    have hcls := zbeq_t hcls
    rw [zsuc] at hcls
    have hcls : (hget M.2.1 q).1 = ci := by omega
    obtain ⟨ws, tys, hA⟩ := id hI.2.1
    obtain ⟨-, fs, r2, w1, w2, -⟩ := zAt_obj hA hcls hci
    rw [hr0] at w2
    cases w2
    have hrecv := va_recv hA.1 hA.2.1 hr0 w1
    rw [hrc] at hrecv
    cases hxr : xs.reverse with
    | nil =>
      rw [hxr] at er
      have : zget 0 ([] : List Nat) 0 = 0 := rfl
      rw [this, zv_lo (by decide)] at er
      cases er
    | cons r1 as =>
      rw [hxr] at er hg hPcU hstk go
      have er : zv ρ (zα b0 B0) r1 = .ref (zα b0 B0 q) := er
      rw [List.map_cons, List.reverse_cons, List.append_assoc, er] at hstk
      rw [List.map_cons, er] at hPcU
      have hlen : as.length + 1 = b % 64 := by
        have h9 := congrArg List.length hxr
        rw [List.length_reverse, List.length_cons, hxl] at h9
        exact h9.symm
      have hpar2 : (parseMethodDescriptor y.desc).map (fun d => d.parameters.length) = some as.length := by
        cases hpd : parseMethodDescriptor y.desc with
        | none => rw [hpd] at hpar; cases hpar
        | some dd =>
          rw [hpd] at hpar
          have h9 : dd.parameters.length + 1 = b % 64 := Option.some.inj hpar
          show some dd.parameters.length = _
          rw [show dd.parameters.length = as.length by omega]
      refine go hg fun g2 g3 gw hMt => ⟨(Value.ref (zα b0 B0 q) :: as.map (zv ρ (zα b0 B0))).toArray, ?_⟩
      rcases hlink with hlk | ⟨host, hlk⟩
      · exact va_runV (Ts := zGW) (own := own) (C := y.cls) (As := as.map (zv ρ (zα b0 B0))) ⟨hx, hb, hml, hown, hw⟩ hMt ⟨callB_of as.length hw (zws_good hcode) rfl rfl rfl (hw _ hini) (hw _ hlk) ⟨hne.1, hne.2, hpar2⟩ hRm, hw _ hinst, hw _ hsel⟩ ⟨zPc_blind hzn, hrecv, hPcU⟩ rfl (by rw [List.length_map]) hsz hstk (lv_room gw) hd (hf g2 g3)
      · exact va_runVN (Ts := zGW) (own := own) (C := y.cls) (As := as.map (zv ρ (zα b0 B0))) ⟨hx, hb, hml, hown, hw⟩ hMt ⟨va_cnB as.length hw (zws_good hcode) rfl rfl rfl (hZ.1 _ hlk) (hw _ hini) ⟨hne.1, hne.2, hpar2⟩ hRm, hw _ hinst, hw _ hsel⟩ ⟨zPc_blind hzn, hrecv, hPcU⟩ rfl (by rw [List.length_map]) hsz hstk (lv_room gw) hd (hf g2 g3)
end ZCALL
