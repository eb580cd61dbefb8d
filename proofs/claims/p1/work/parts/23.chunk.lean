/-! A method's run in pieces; calls that are told apart -/
noncomputable def zloopK (hs : List zHa) (code : Nat) (K : zK) (n : Nat) : zK :=
  Nat.rec (motive := fun _ => zK) K (fun _ ih pc L st m => frc (zfet code pc) fun e => zx hs ih pc L st m e) n
/-- words at places, of any kind -/
def zmj (q : Nat × Nat) (w : Cond) : Bool := decide ((zTj q.1)[q.2]? = some w)
theorem zmj_t {q : Nat × Nat} {w : Cond} (h : zmj q w = true) : w ∈ lw_tbl := zTj_in (List.mem_of_getElem? (zde h))
def zmjs : List (Nat × Nat) → List Cond → Bool
  | _, [] => true
  | [], _ :: _ => false
  | q :: t, w :: r => zmj q w && zmjs t r
theorem zmjs_t : ∀ (l : List (Nat × Nat)) (ws : List Cond), zmjs l ws = true → ∀ w ∈ ws, w ∈ lw_tbl
  | _, [], _, w, hw => by cases hw
  | [], _ :: _, h, _, _ => by cases h
  | q :: t, w :: r, h, v, hv => by
    obtain ⟨h1, h2⟩ := zan h
    rcases List.mem_cons.mp hv with rfl | hv
    · exact zmj_t h1
    · exact zmjs_t t r h2 v hv
theorem zlw_nests : zmjs znp znl = true := by decide +kernel
def zisn (w : Cond) : Bool := match w with
  | .methodLinkNest _ _ _ _ => true
  | _ => false
theorem zisn_t {w : Cond} (h : zisn w = true) : ∃ a i x h, w = .methodLinkNest a i x h := by
  unfold zisn at h
  split at h
  · exact ⟨_, _, _, _, rfl⟩
  · cases h
theorem zlw_isn : znl.all zisn = true := by decide +kernel
theorem zlw_nst : ∀ w ∈ znl, ∃ a i x h, w = .methodLinkNest a i x h := fun w hw => zisn_t (List.all_eq_true.mp zlw_isn w hw)
section ZLOOPK
variable {p : Program} {l : Launch} {e : Env} {R : Room} {s : State} {m : MethodId} {args : Array Value} {below : List Frame} {meth : Method} {c : Code} {Q : State → Prop}
variable {cc : ByteArray} {nL : Nat} {D : va_G} {ρ : Nat → Int} {b0 B0 mc ms : Nat} {P : zO → Prop} {ret : Option FieldType}
theorem zloopK_ok (hx : p.tables.exec = Jvm.exec) (hb : c.code = cc) (hml : c.maxLocals = nL) (h0 : ∀ o, P o → o.1 = 1) {own yn : String} (hown : s.vm.findClass own = some m.cls) (hyn : meth.name = yn) (hw : ∀ w ∈ zGW, w.before args s = true) {zn : List Cond} (hzn : ∀ w ∈ zn, ∃ a i x h, w = .methodLinkNest a i x h) (hZ : zZ zn s) {d : Nat} (hR : d + 1 ≤ R.frames ∧ 200 * (d + 1) ≤ R.locals ∧ mc ≤ R.cells ∧ ms ≤ R.slots)
    (hret : zRetOK p l e R s m args below meth c Q cc ret D ρ b0 B0 mc ms P) {E : zE} {MI : zMI} {N : Nat} {Df : zD} (hDf : zdOK ρ Df) {cal : zCal} {oz : zK} (hoz : ∀ pc L st M, zgood P (oz pc L st M) → zWk p l e R s m args below meth c Q nL D ρ b0 B0 mc ms P pc L st M)
    (hM : ∀ (a : Nat) (S : zS) (as : List Nat) (h : zH) (len : Nat), a < N → zsat ρ S → (∀ x ∈ as, x ≤ 110680464442257309695) → zgood (fun o => o.1 = 1) (cal a S as h len) → Met l (MI a).1 (zws (MI a).1 (MI a).2.1 (MI a).2.2.1 (MI a).2.2.2) (zrm d (zmt E.1 a).2.2.1 (zmt E.1 a).2.2.2.1) (zPc D ρ b0 B0 zn as h len) (zQc D ρ b0 B0 (cal a S as h len)) (zmt E.1 a).2.2.1 (zmt E.1 a).2.2.2.1 (fun q => B0 ≤ q))
    {K : zK} (hK : ∀ pc L st M, zgood P (K pc L st M) → zWk p l e R s m args below meth c Q nL D ρ b0 B0 mc ms P pc L st M) {code : Nat} (hcode : ∀ pc, zPcOK E zn MI N own yn cc nL ret pc (zfet code pc)) : ∀ n, zIh p l e R s m args below meth c Q nL D ρ b0 B0 mc ms P (zloopK (zHs E Df cal oz) code K n) := by
  intro n
  have hR1 : mc ≤ R.cells ∧ ms ≤ R.slots := hR.2.2
  have hR2 : 1 ≤ R.frames := by have := hR.1; omega
  have hR3 : 100 ≤ R.locals := by have := hR.2.1; omega
  induction n with
  | zero => intro pc L st M hg; exact hK pc L st M hg
  | succ n hih =>
    intro pc L st M hg
    have hg : zgood P (frc (zfet code pc) fun e => zx (zHs E Df cal oz) (zloopK (zHs E Df cal oz) code K n) pc L st M e) := hg
    rw [frc_eq] at hg
    have hop := hcode pc
    unfold zPcOK at hop
    unfold zx at hg
    rw [zmod _ 256, zshr _ 88, zshr _ 32, zshr _ 8, zmod _ 4294967296, zmod _ 16777216, zget_eq] at hg
    generalize zfet code pc >>> 88 = a at hop hg
    generalize (zfet code pc >>> 32) % 4294967296 = b at hop hg
    generalize (zfet code pc >>> 8) % 16777216 = nx at hop hg
    generalize zfet code pc % 256 = o at hop hg
    have bad : zgood P (z_bad (zloopK (zHs E Df cal oz) code K n) pc L st M a b nx) → zWk p l e R s m args below meth c Q nL D ρ b0 B0 mc ms P pc L st M := fun h => (zgood_no h0 h).elim
    match o, hop, hg with
    | 0, hop, hg => exact bad hg
    | 1, hop, hg => exact zo_load (a := a) (b := b) (nx := nx) hx hb h0 hih hop hg
    | 2, hop, hg => exact zo_getf (a := a) (b := b) (nx := nx) hx hb h0 hown hw hih hop hg
    | 3, hop, hg => exact zo_push (a := a) (b := b) (nx := nx) hx hb hown hw hih hop hg
    | 4, hop, hg => exact zo_ib (w := a) (b := b) (nx := nx) hx hb h0 hDf hih hop hg
    | 5, hop, hg => exact zo_ald (a := a) (b := b) (nx := nx) hx hb h0 hih hop hg
    | 6, hop, hg => exact zo_icmp (a := a) (b := b) (nx := nx) hx hb h0 hih hop hg
    | 7, hop, hg => exact zo_store (a := a) (b := b) (nx := nx) hx hb h0 hih hop hg
    | 8, hop, hg => exact zo_goto (a := a) (b := b) (nx := nx) hx hb hih hop hg
    | 9, hop, hg => exact zo_iinc (a := a) (b := b) (nx := nx) hx hb h0 hih hop hg
    | 10, hop, hg => exact zo_if (a := a) (b := b) (nx := nx) hx hb h0 hih hop hg
    | 11, hop, hg => exact zo_call (a := a) (b := b) (nx := nx) hx hb hml h0 hown hw hzn hZ hR hih (fun S as h len g1 g2 g3 => hM a S as h len hop.1 g1 g2 g3) hop.2 hg
    | 12, hop, hg => exact zo_xret (ih := zloopK (zHs E Df cal oz) code K n) (a := a) (b := b) (nx := nx) h0 hret hop hg
    | 13, hop, hg => exact zo_putf (a := a) (b := b) (nx := nx) hx hb h0 hyn hown hw hih hop hg
    | 14, hop, hg => exact zo_ast (a := a) (b := b) (nx := nx) hx hb h0 hih hop hg
    | 15, hop, hg => exact zo_vret (ih := zloopK (zHs E Df cal oz) code K n) (a := a) (b := b) (nx := nx) h0 hret hop hg
    | 16, hop, hg => exact zo_cv (w := a) (b := b) (nx := nx) hx hb h0 hih hop hg
    | 17, hop, hg => exact zo_lcmp (a := a) (b := b) (nx := nx) hx hb h0 hih hop hg
    | 18, hop, hg => exact zo_lb (w := a) (b := b) (nx := nx) hx hb h0 hDf hih hop hg
    | 19, hop, hg => exact zo_ls (w := a) (b := b) (nx := nx) hx hb h0 hDf hih hop hg
    | 20, hop, hg => exact zo_lstore (a := a) (b := b) (nx := nx) hx hb h0 hih hop hg
    | 21, hop, hg => exact zo_alen (a := a) (b := b) (nx := nx) hx hb h0 hih hop hg
    | 22, hop, hg => exact zo_newa (a := a) (b := b) (nx := nx) hx hb h0 hw hR1 hih hop hg
    | 23, hop, hg => exact zo_anewa (a := a) (b := b) (nx := nx) hx hb h0 hown hw hZ hR1 hih hop hg
    | 24, hop, hg => exact zo_new (a := a) (b := b) (nx := nx) hx hb h0 hown hw hR1 hih hop hg
    | 25, hop, hg => exact zo_dup (a := a) (b := b) (nx := nx) hx hb h0 hih hop hg
    | 26, hop, hg => exact zo_pop (a := a) (b := b) (nx := nx) hx hb h0 hih hop hg
    | 27, hop, hg => exact zo_mm (a := a) (b := b) (nx := nx) hx hb hml h0 hown hw hR2 hR3 hR1 hih hop hg
    | 28, hop, hg => exact bad hg
    | 29, hop, hg => exact zo_null (a := a) (b := b) (nx := nx) hx hb h0 hih hop hg
    | 30, hop, hg => exact zo_tab (a := a) (b := b) (nx := nx) hx hb h0 hih hop hg
    | 31, hop, hg => exact zo_lku (a := a) (b := b) (nx := nx) hx hb h0 hih hop hg
    | 32, hop, hg => exact zo_acmp (a := a) (b := b) (nx := nx) hx hb h0 hih hop hg
    | 33, hop, hg => exact zo_oini (a := a) (b := b) (nx := nx) hx hb hml h0 hown hw hR2 (by omega) hih hop hg
    | 34, hop, hg => exact zo_copy (a := a) (b := b) (nx := nx) hx hb hml h0 hown hw hR2 hR3 hih hop hg
    | 35, hop, hg => exact hoz pc L st M hg
    | k + 36, hop, hg => exact bad hg
end ZLOOPK
/-- in the midst of a run of the method mi, deep enough -/
def zCtx (l : Launch) (ρ : Nat → Int) (D : va_G) (b0 B0 dR mi : Nat) (P : zO → Prop) (p : Program) (e : Env) (s : State) (m : MethodId) (args : Array Value) (below : List Frame) (meth : Method) (c : Code) (Q : State → Prop) : Prop :=
  p.tables.exec = Jvm.exec ∧ c.code = (zrr mi).1.2.1 ∧ c.maxLocals = (zrr mi).1.2.2.1 ∧ s.vm.findClass (zrr mi).1.1.cls = some m.cls ∧ meth.name = (zrr mi).1.1.name ∧ (∀ w ∈ zGW, w.before args s = true) ∧ zZ znl s ∧
  zRetOK p l e (zrm (dR + 1) (zmt zEe.1 mi).2.2.1 (zmt zEe.1 mi).2.2.2.1) s m args below meth c Q (zrr mi).1.2.1 (zrr mi).1.2.2.2 D ρ b0 B0 (zmt zEe.1 mi).2.2.1 (zmt zEe.1 mi).2.2.2.1 P
/-- from there it comes to a good end -/
def zGo (l : Launch) (ρ : Nat → Int) (dR mi : Nat) (P : zO → Prop) (q : Nat × Nat × List Nat × zM) : Prop :=
  ∀ (D : va_G) (b0 B0 : Nat) (p : Program) (e : Env) (s : State) (m : MethodId) (args : Array Value) (below : List Frame) (meth : Method) (c : Code) (Q : State → Prop), zCtx l ρ D b0 B0 dR mi P p e s m args below meth c Q →
    zWk p l e (zrm (dR + 1) (zmt zEe.1 mi).2.2.1 (zmt zEe.1 mi).2.2.2.1) s m args below meth c Q (zrr mi).1.2.2.1 D ρ b0 B0 (zmt zEe.1 mi).2.2.1 (zmt zEe.1 mi).2.2.2.1 P q.1 q.2.1 q.2.2.1 q.2.2.2
/-- what is told of a call, the machine does -/
def zMet (l : Launch) (ρ : Nat → Int) (dR mi : Nat) (as : List Nat) (h : zH) (len : Nat) (outs : List zO) : Prop :=
  ∀ (D : va_G) (b0 B0 : Nat), Met l (zrr mi).1.1 (zws (zrr mi).1.1 (zrr mi).1.2.1 (zrr mi).1.2.2.1 (zrr mi).1.2.2.2) (zrm dR (zmt zEe.1 mi).2.2.1 (zmt zEe.1 mi).2.2.2.1) (zPc D ρ b0 B0 znl as h len) (zQc D ρ b0 B0 outs) (zmt zEe.1 mi).2.2.1 (zmt zEe.1 mi).2.2.2.1 (fun q => B0 ≤ q)
theorem zgo_met (l : Launch) {ρ : Nat → Int} {mi dR : Nat} (hmi : mi < 259) {S : zS} {as : List Nat} {h : zH} {len : Nat} {outs : List zO} (hS : zsat ρ S) (has : ∀ x ∈ as, x ≤ 110680464442257309695) (hwt : zwt as ≤ (zmt zEe.1 mi).2.2.2.2)
    (hgo : zGo l ρ dR mi (fun o => o.1 = 1 ∧ o ∈ outs) (0, zargs as (zmt zEe.1 mi).2.1 0, [], (S, h, len, (zmt zEe.1 mi).2.2.1, (zmt zEe.1 mi).2.2.2.1))) : zMet l ρ (dR + 1) mi as h len outs := by
  intro D b0 B0
  obtain ⟨e1, e2, e3, e4, e5⟩ := zkE mi hmi
  refine Met.ofW (cc := (zrr mi).1.2.1) (maxL := (zrr mi).1.2.2.1) (ret := (zrr mi).1.2.2.2) e2 rfl ?_
  intro p e s m args below meth c s₁ B hml hv
  obtain ⟨rfl, hh, hZ⟩ := hv
  have hx := B.exec
  have hb := B.bytes
  have hr := B.returns
  have hts := atoms_spec (ws := zws (zrr mi).1.1 (zrr mi).1.2.1 (zrr mi).1.2.2.1 (zrr mi).1.2.2.2) B.pre
  have hw : ∀ w ∈ zGW, w.before ((as.map (zv ρ (zα b0 B0))).toArray) s = true := fun w h => hts w (List.mem_cons_of_mem _ h)
  have hown : s.vm.findClass (zrr mi).1.1.cls = some m.cls := findClass_of_methodNamed B.named
  have hlocks := B.notSynchronized
  have hyn : meth.name = (zrr mi).1.1.name := (name_of_methodNamed B.named B.method).1
  have hret : zRetOK p l e (zrm (dR + 1) (zmt zEe.1 mi).2.2.1 (zmt zEe.1 mi).2.2.2.1) s m ((as.map (zv ρ (zα b0 B0))).toArray) below meth c (MQ below (zQc D ρ b0 B0 outs) ((as.map (zv ρ (zα b0 B0))).toArray) s (zmt zEe.1 mi).2.2.1 (zmt zEe.1 mi).2.2.2.1 (fun q => B0 ≤ q)) (zrr mi).1.2.1 (zrr mi).1.2.2.2 D ρ b0 B0 (zmt zEe.1 mi).2.2.1 (zmt zEe.1 mi).2.2.2.1 (fun o => o.1 = 1 ∧ o ∈ outs) := by
    intro o H locs cells slots pc ls hP hs1 hh1 hS1 hc1 hc2 hz
    have hq : ∀ t : State, t.heap = H → s.WarmedH t.vm → zQc D ρ b0 B0 outs ((as.map (zv ρ (zα b0 B0))).toArray) s (.returned (zrv ρ (zα b0 B0) o.2.1)) t := by
      intro t ht hW
      exact ⟨o, hP.2, hP.1, hs1, rfl, by rw [ht]; exact zHR.moved hW.alike hh1, hS1.F ht⟩
    refine W.widen hc1 hc2 ?_
    rcases hz with ⟨hv, hd, hre⟩ | ⟨hv, hd, hre⟩ | ⟨hv, hd, hre⟩ | ⟨hv, hd, rt, hre, hrt⟩
    · have ez : zrv ρ (zα b0 B0) o.2.1 = none := by unfold zrv; rw [if_pos hv]
      rw [ez] at hq ⊢
      exact W.vret hx hb (hr.trans hre) hq hS1.2.2 hd hlocks
    · have ez : zrv ρ (zα b0 B0) o.2.1 = some (.int (zvi ρ o.2.1)) := by
        unfold zrv
        rw [zv_i hv]
        rw [zkd_eq] at hv
        rw [if_neg (by omega)]
      rw [ez] at hq ⊢
      rcases hre with hre | ⟨hre, hv1⟩
      · exact W.iret hx hb (hr.trans hre) hq hS1.2.2 hd hlocks
      · refine W.zret hx hb (hr.trans hre) ?_ hq hS1.2.2 hd hlocks
        rw [zvi_lo (by omega)]
        rcases (show o.2.1 = 0 ∨ o.2.1 = 1 by omega) with q | q <;> rw [q] <;> decide
    · have ez : zrv ρ (zα b0 B0) o.2.1 = some (.long (zvl ρ o.2.1)) := by
        unfold zrv
        rw [zv_l hv]
        rw [zkd_eq] at hv
        rw [if_neg (by omega)]
      rw [ez] at hq ⊢
      exact W.lret hx hb (hr.trans hre) hq hS1.2.2 hd hlocks
    · have ez : zrv ρ (zα b0 B0) o.2.1 = some (va_rf (zvr (zα b0 B0) o.2.1)) := by
        unfold zrv
        rw [zv_r (by omega)]
        rw [zkd_eq] at hv
        rw [if_neg (by omega)]
      rw [ez] at hq ⊢
      exact W.aret hx hb (hr.trans hre) hrt (va_rf_or _) hq hS1.2.2 hd hlocks
  rw [lg_entry_eq]
  have e3 : (zmt zEe.1 mi).2.2.2.2 = (zrr mi).1.2.2.1 := e3
  have hlen : (lg_sl (as.map (zv ρ (zα b0 B0)))).length ≤ (zrr mi).1.2.2.1 := by rw [zsl_len, ← e3]; exact hwt
  have hle := lv_entry (as.map (zv ρ (zα b0 B0))) hlen
  refine hgo D b0 B0 p e s m _ below meth c _ ⟨hx, hb, hml, hown, hyn, hw, hZ, hret⟩ s.heap [] 0 0 _ ⟨hS, hh, va_S.rf, Nat.zero_add _, Nat.zero_add _⟩ (zhas_sub hle fun q hq => ?_)
  obtain ⟨q1, q2, q3⟩ := zLs_mem.mp hq
  rcases zargs_ok (ρ := ρ) (α := zα b0 B0) as (zmt zEe.1 mi).2.1 0 q.1 has with hz | hz
  · rw [← q3] at hz
    exact hz
  · rw [hz] at q2
    have := e4 q.1 q1
    omega
/-- the pieces of a run: K tells where a piece may end -/
theorem zgo_loop (l : Launch) {ρ : Nat → Int} {mi dR dc : Nat} (hmi : mi < 259) (hdc : dc ≤ dR) {P : zO → Prop} (h0 : ∀ o, P o → o.1 = 1) {Df : zD} (hDf : zdOK ρ Df) {cal : zCal}
    (hM : ∀ (a : Nat) (S : zS) (as : List Nat) (h : zH) (len : Nat), a < 259 → zsat ρ S → (∀ x ∈ as, x ≤ 110680464442257309695) → zgood (fun o => o.1 = 1) (cal a S as h len) → zMet l ρ dc a as h len (cal a S as h len))
    {K : zK} (hK : ∀ pc L st M, zgood P (K pc L st M) → zGo l ρ dR mi P (pc, L, st, M)) {n pc L : Nat} {st : List Nat} {M : zM} (hg : zgood P (zloopK (zHs zEe Df cal (znz 0)) (zmt zEe.1 mi).1 K n pc L st M)) : zGo l ρ dR mi P (pc, L, st, M) := by
  intro D b0 B0 p e s m args below meth c Q hc
  obtain ⟨hx, hb, hml, hown, hyn, hw, hZ, hret⟩ := id hc
  obtain ⟨-, -, -, -, e5⟩ := zkE mi hmi
  exact zloopK_ok (E := zEe) (MI := fun a => (zrr a).1) (N := 259) (Df := Df) (cal := cal) (oz := znz 0) (code := (zmt zEe.1 mi).1) (d := dc) (K := K)
    hx hb hml h0 hown hyn hw zlw_nst hZ ⟨by show dc + 1 ≤ dR + 1; omega, by show 200 * (dc + 1) ≤ 200 * (dR + 1); omega, Nat.le_refl _, Nat.le_refl _⟩ hret hDf (fun pc L st M hz => (zgood_no h0 hz).elim)
    (fun a S as h len g0 g1 g2 g3 => hM a S as h len g0 g1 g2 g3 D b0 B0) (fun pc L st M hz => hK pc L st M hz D b0 B0 p e s m args below meth c Q hc) e5 n pc L st M hg
/-- methods that are told apart -/
def zoc (l : Launch) (ρ : Nat → Int) (k : Nat) (om : Nat → Bool) (oc : zCal) : Prop := ∀ (d mi : Nat) (S : zS) (as : List Nat) (h : zH) (len : Nat), mi < 259 → om mi = true → zsat ρ S → (∀ x ∈ as, x ≤ 110680464442257309695) → zgood (fun o => o.1 = 1) (oc mi S as h len) → zMet l ρ (k + d + 1) mi as h len (oc mi S as h len)
theorem zoc_no (l : Launch) (ρ : Nat → Int) (oc : zCal) : zoc l ρ 0 znm oc := fun _ _ _ _ _ _ _ h => by cases h
theorem zmetk (l : Launch) {ρ : Nat → Int} {Df : zD} (hDf : zdOK ρ Df) {k : Nat} {om : Nat → Bool} {oc : zCal} (hoc : zoc l ρ k om oc) {F : Nat} : ∀ (d mi : Nat) (S : zS) (as : List Nat) (h : zH) (len : Nat), mi < 259 → zsat ρ S → (∀ x ∈ as, x ≤ 110680464442257309695) → zgood (fun o => o.1 = 1) (zrun zEe Df om oc znz F d mi S as h len) → zMet l ρ (k + d) mi as h len (zrun zEe Df om oc znz F d mi S as h len) := by
  intro d
  induction d with
  | zero => intro mi S as h len _ _ _ hg; exact (zgood_no (fun _ q => q) hg).elim
  | succ d ihd =>
    intro mi S as h len hmi hS has hg
    have key : zrun zEe Df om oc znz F (d + 1) mi S as h len = cond (om mi) (oc mi S as h len) (zrun1 (zHs zEe Df (zrun zEe Df om oc znz F d) (znz mi)) F S as h len (zmt zEe.1 mi)) := rfl
    rw [key] at hg ⊢
    cases hom : om mi with
    | true =>
      rw [hom, cond_true] at hg
      rw [cond_true]
      exact hoc d mi S as h len hmi hom hS has hg
    | false =>
      rw [hom, cond_false] at hg
      rw [cond_false]
      unfold zrun1 at hg ⊢
      obtain ⟨hwt, hg⟩ := zgc (fun _ q => q) hg
      rw [hwt, cond_true, frc_eq]
      rw [frc_eq] at hg
      refine zgo_met l hmi hS has (zble_t hwt) (dR := k + d) ?_
      refine zgo_loop l (K := fun _ _ _ _ => zfail) (n := F) hmi (Nat.le_refl (k + d)) (fun o q => q.1) hDf (fun a S as h len g0 g1 g2 g3 => ihd a S as h len g0 g1 g2 g3) (fun pc L st M hz => (zgood_no (fun o q => q.1) hz).elim) ?_
      exact fun o ho => ⟨hg o ho, ho⟩
/-- the same, for a piece whose calls the reader reads -/
theorem zgo_chunk (l : Launch) {ρ : Nat → Int} {mi dR k d : Nat} (hmi : mi < 259) (hdc : k + d ≤ dR) {P : zO → Prop} (h0 : ∀ o, P o → o.1 = 1) {Df : zD} (hDf : zdOK ρ Df) {om : Nat → Bool} {oc : zCal} (hoc : zoc l ρ k om oc) {F : Nat}
    {K : zK} (hK : ∀ pc L st M, zgood P (K pc L st M) → zGo l ρ dR mi P (pc, L, st, M)) {n pc L : Nat} {st : List Nat} {M : zM} (hg : zgood P (zloopK (zHs zEe Df (zrun zEe Df om oc znz F d) (znz 0)) (zmt zEe.1 mi).1 K n pc L st M)) : zGo l ρ dR mi P (pc, L, st, M) :=
  zgo_loop l hmi hdc h0 hDf (fun a S as h len g0 g1 g2 g3 => zmetk l hDf hoc d a S as h len g0 g1 g2 g3) hK hg
/-- ends of a piece, by their states -/
def zKq (qs : List (Nat × Nat × List Nat × zM)) : zK := fun pc L st M => cond (decide ((pc, L, st, M) ∈ qs)) [] zfail
theorem zKq_t {l : Launch} {ρ : Nat → Int} {dR mi : Nat} {P : zO → Prop} (h0 : ∀ o, P o → o.1 = 1) {qs : List (Nat × Nat × List Nat × zM)} (hq : ∀ q ∈ qs, zGo l ρ dR mi P q) : ∀ pc L st M, zgood P (zKq qs pc L st M) → zGo l ρ dR mi P (pc, L, st, M) := by
  intro pc L st M h
  unfold zKq at h
  by_cases g : (pc, L, st, M) ∈ qs
  · exact hq _ g
  · rw [decide_eq_false g] at h
    exact (zgood_no h0 h).elim
/-- a weaker word of what is told -/
theorem zMet.weak {l : Launch} {ρ : Nat → Int} {dR mi : Nat} {as : List Nat} {h : zH} {len : Nat} {outs outs2 : List zO} (hm : zMet l ρ dR mi as h len outs)
    (hw : ∀ u ∈ outs, u.1 = 1 → zsat ρ u.2.2.1 → ∃ v ∈ outs2, v.1 = 1 ∧ zsat ρ v.2.2.1 ∧ (∀ α, zrv ρ α v.2.1 = zrv ρ α u.2.1) ∧ v.2.2.2.1 = u.2.2.2.1 ∧ v.2.2.2.2 = u.2.2.2.2) : zMet l ρ dR mi as h len outs2 := by
  intro D b0 B0 p e ha hc hk s m args below hf happ hP hF
  obtain ⟨n, o, h1, h2, h3, ⟨u, hu, g1, g2, g3, g4, g5⟩, h4⟩ := hm D b0 B0 p e ha hc hk s m args below hf happ hP hF
  obtain ⟨v, hv, k1, k2, k3, k4, k5⟩ := hw u hu g1 g2
  exact ⟨n, o, h1, h2, h3, ⟨v, hv, k1, k2, by rw [g3, k3], by rw [k4, k5]; exact g4, g5⟩, h4⟩
