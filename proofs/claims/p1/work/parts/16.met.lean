/-! One method's steps; every method, by the depth of its calls -/
/-- the tables of methods: name, code, locals, what it gives back -/
abbrev zMI : Type := Nat → MethodName × ByteArray × Nat × Option FieldType
/-- what the instruction at pc must be, by its place's number -/
def zOpOK (E : zE) (zn : List Cond) (MI : zMI) (N : Nat) (own yn : String) (cc : ByteArray) (nL : Nat) (ret : Option FieldType) (pc o a b nx : Nat) : Prop := match o with
  | 1 => zd_load cc nL pc a b nx
  | 2 => zd_getf cc own pc a b nx
  | 3 => zd_push cc own pc a nx
  | 4 => zd_ib cc pc a nx
  | 5 => zd_ald cc pc a nx
  | 6 => nx = pc + 3 ∧ ∃ off : Int, zd_icmp cc pc a off ∧ (pc : Int) + off = (b : Int)
  | 7 => zd_store cc nL pc a b nx
  | 8 => ∃ off : Int, decode cc pc = .ok (.goto off, 3) ∧ (pc : Int) + off = (b : Int)
  | 9 => zd_iinc cc nL pc a b nx
  | 10 => nx = pc + 3 ∧ ∃ off : Int, zd_if cc pc a off ∧ (pc : Int) + off = (b : Int)
  | 11 => a < N ∧ zd_call cc own zn pc b nx (MI a).1 (MI a).2.1 (MI a).2.2.1 (MI a).2.2.2
  | 12 => zd_xret cc ret pc a b
  | 13 => zd_putf cc own yn pc a b nx
  | 14 => zd_ast cc pc a nx
  | 15 => decode cc pc = .ok (.return_, 1) ∧ ret = none
  | 16 => zd_cv cc pc a nx
  | 17 => decode cc pc = .ok (.lcmp, 1) ∧ nx = pc + 1 + 3 ∧ ∃ off : Int, zd_if cc (pc + 1) a off ∧ ((pc + 1 : Nat) : Int) + off = (b : Int)
  | 18 => zd_lb cc pc a nx
  | 19 => zd_ls cc pc a nx
  | 20 => zd_lstore cc nL pc a nx
  | 21 => zd_alen cc pc nx
  | 22 => zd_newa cc pc a nx
  | 23 => zd_anewa cc own pc a nx
  | 24 => zd_new cc own pc a nx (E.2.1.getD a (0, 0))
  | 25 => nx = pc + 1 ∧ decode cc pc = .ok (.dup, 1)
  | 26 => nx = pc + 1 ∧ decode cc pc = .ok (.pop, 1)
  | 27 => zd_mm cc own pc a nx
  | 29 => nx = pc + 3 ∧ ∃ off : Int, ((a = 0 ∧ decode cc pc = .ok (.ifnull off, 3)) ∨ (a = 1 ∧ decode cc pc = .ok (.ifnonnull off, 3))) ∧ (pc : Int) + off = (b : Int)
  | 30 => zd_tab cc pc (E.2.2.1.getD a (0, [], 0))
  | 31 => zd_lku cc pc (E.2.2.2.getD a ([], 0))
  | 32 => nx = pc + 3 ∧ ∃ off : Int, ((a = 0 ∧ decode cc pc = .ok (.if_acmp .eq off, 3)) ∨ (a = 1 ∧ decode cc pc = .ok (.if_acmp .ne off, 3))) ∧ (pc : Int) + off = (b : Int)
  | 33 => zd_oini cc own pc nx
  | 34 => zd_copy cc own pc nx
  | _ => True
/-- the same, of the number of a place -/
def zPcOK (E : zE) (zn : List Cond) (MI : zMI) (N : Nat) (own yn : String) (cc : ByteArray) (nL : Nat) (ret : Option FieldType) (pc x : Nat) : Prop := zOpOK E zn MI N own yn cc nL ret pc (x % 256) (x >>> 88) ((x >>> 32) % 4294967296) ((x >>> 8) % 16777216)
def zMtOK (E : zE) (zn : List Cond) (MI : zMI) (N : Nat) (mi : Nat) : Prop :=
  Cond.code (MI mi).1 (MI mi).2.1 (MI mi).2.2.1 (MI mi).2.2.2 ∈ zGW ∧ plainName (MI mi).1.cls = true ∧ (zmt E.1 mi).2.2.2.2 = (MI mi).2.2.1 ∧ (∀ i, i < (MI mi).2.2.1 → 3 ≤ zkd (bget (zmt E.1 mi).2.1 i)) ∧
  ∀ pc, zPcOK E zn MI N (MI mi).1.cls (MI mi).1.name (MI mi).2.1 (MI mi).2.2.1 (MI mi).2.2.2 pc (zfet (zmt E.1 mi).1 pc)
section ZLOOP
variable {p : Program} {l : Launch} {e : Env} {R : Room} {s : State} {m : MethodId} {args : Array Value} {below : List Frame} {meth : Method} {c : Code} {Q : State → Prop}
variable {cc : ByteArray} {nL : Nat} {D : va_G} {ρ : Nat → Int} {b0 B0 mc ms : Nat} {P : zO → Prop} {ret : Option FieldType}
theorem zloop_ok (hx : p.tables.exec = Jvm.exec) (hb : c.code = cc) (hml : c.maxLocals = nL) (h0 : ∀ o, P o → o.1 = 1) {own yn : String} (hown : s.vm.findClass own = some m.cls) (hyn : meth.name = yn) (hw : ∀ w ∈ zGW, w.before args s = true) {zn : List Cond} (hzn : ∀ w ∈ zn, ∃ a i x h, w = .methodLinkNest a i x h) (hZ : zZ zn s) {d : Nat} (hR : d + 1 ≤ R.frames ∧ 200 * (d + 1) ≤ R.locals ∧ mc ≤ R.cells ∧ ms ≤ R.slots)
    (hret : zRetOK p l e R s m args below meth c Q cc ret D ρ b0 B0 mc ms P) {E : zE} {MI : zMI} {N : Nat} {Df : zD} (hDf : zdOK ρ Df) {cal : zCal} {oz : zK} (hoz : ∀ pc L st M, zgood P (oz pc L st M) → zWk p l e R s m args below meth c Q nL D ρ b0 B0 mc ms P pc L st M)
    (hM : ∀ (a : Nat) (S : zS) (as : List Nat) (h : zH) (len : Nat), a < N → zsat ρ S → (∀ x ∈ as, x ≤ 110680464442257309695) → zgood (fun o => o.1 = 1) (cal a S as h len) → Met l (MI a).1 (zws (MI a).1 (MI a).2.1 (MI a).2.2.1 (MI a).2.2.2) (zrm d (zmt E.1 a).2.2.1 (zmt E.1 a).2.2.2.1) (zPc D ρ b0 B0 zn as h len) (zQc D ρ b0 B0 (cal a S as h len)) (zmt E.1 a).2.2.1 (zmt E.1 a).2.2.2.1 (fun q => B0 ≤ q))
    {code : Nat} (hcode : ∀ pc, zPcOK E zn MI N own yn cc nL ret pc (zfet code pc)) : ∀ n, zIh p l e R s m args below meth c Q nL D ρ b0 B0 mc ms P (zloop (zHs E Df cal oz) code n) := by
  intro n
  have hR1 : mc ≤ R.cells ∧ ms ≤ R.slots := hR.2.2
  have hR2 : 1 ≤ R.frames := by have := hR.1; omega
  have hR3 : 100 ≤ R.locals := by have := hR.2.1; omega
  induction n with
  | zero => intro pc L st M hg; exact (zgood_no h0 hg).elim
  | succ n hih =>
    intro pc L st M hg
    have hg : zgood P (frc (zfet code pc) fun e => zx (zHs E Df cal oz) (zloop (zHs E Df cal oz) code n) pc L st M e) := hg
    rw [frc_eq] at hg
    have hop := hcode pc
    unfold zPcOK at hop
    unfold zx at hg
    rw [zmod _ 256, zshr _ 88, zshr _ 32, zshr _ 8, zmod _ 4294967296, zmod _ 16777216, zget_eq] at hg
    generalize zfet code pc >>> 88 = a at hop hg
    generalize (zfet code pc >>> 32) % 4294967296 = b at hop hg
    generalize (zfet code pc >>> 8) % 16777216 = nx at hop hg
    generalize zfet code pc % 256 = o at hop hg
    have bad : zgood P (z_bad (zloop (zHs E Df cal oz) code n) pc L st M a b nx) → zWk p l e R s m args below meth c Q nL D ρ b0 B0 mc ms P pc L st M := fun h => (zgood_no h0 h).elim
    match o, hop, hg with
    | 0, hop, hg => exact bad hg
    | 1, hop, hg => exact zo_load (a := a) (b := b) (nx := nx) hx hb h0 hih hop hg
    | 2, hop, hg => exact zo_getf (a := a) (b := b) (nx := nx) hx hb h0 hown hw hih hop hg
    | 3, hop, hg => exact zo_push (a := a) (b := b) (nx := nx) hx hb hown hw hih hop hg
    | 4, hop, hg => exact zo_ib (w := a) (b := b) (nx := nx) hx hb h0 hDf hih hop hg
    | 5, hop, hg => exact zo_ald (a := a) (b := b) (nx := nx) hx hb h0 hih hop hg
    | 6, hop, hg => exact zo_icmp (a := a) (b := b) (nx := nx) hx hb h0 hih hop hg
    | 7, hop, hg => exact zo_store (a := a) (b := b) (nx := nx) hx hb h0 hih hop hg
    | 8, hop, hg => exact zo_goto (a := a) (b := b) (nx := nx) hx hb hih hop hg
    | 9, hop, hg => exact zo_iinc (a := a) (b := b) (nx := nx) hx hb h0 hih hop hg
    | 10, hop, hg => exact zo_if (a := a) (b := b) (nx := nx) hx hb h0 hih hop hg
    | 11, hop, hg => exact zo_call (a := a) (b := b) (nx := nx) hx hb hml h0 hown hw hzn hZ hR hih (fun S as h len g1 g2 g3 => hM a S as h len hop.1 g1 g2 g3) hop.2 hg
    | 12, hop, hg => exact zo_xret (ih := zloop (zHs E Df cal oz) code n) (a := a) (b := b) (nx := nx) h0 hret hop hg
    | 13, hop, hg => exact zo_putf (a := a) (b := b) (nx := nx) hx hb h0 hyn hown hw hih hop hg
    | 14, hop, hg => exact zo_ast (a := a) (b := b) (nx := nx) hx hb h0 hih hop hg
    | 15, hop, hg => exact zo_vret (ih := zloop (zHs E Df cal oz) code n) (a := a) (b := b) (nx := nx) h0 hret hop hg
    | 16, hop, hg => exact zo_cv (w := a) (b := b) (nx := nx) hx hb h0 hih hop hg
    | 17, hop, hg => exact zo_lcmp (a := a) (b := b) (nx := nx) hx hb h0 hih hop hg
    | 18, hop, hg => exact zo_lb (w := a) (b := b) (nx := nx) hx hb h0 hDf hih hop hg
    | 19, hop, hg => exact zo_ls (w := a) (b := b) (nx := nx) hx hb h0 hDf hih hop hg
    | 20, hop, hg => exact zo_lstore (a := a) (b := b) (nx := nx) hx hb h0 hih hop hg
    | 21, hop, hg => exact zo_alen (a := a) (b := b) (nx := nx) hx hb h0 hih hop hg
    | 22, hop, hg => exact zo_newa (a := a) (b := b) (nx := nx) hx hb h0 hw hR1 hih hop hg
    | 23, hop, hg => exact zo_anewa (a := a) (b := b) (nx := nx) hx hb h0 hown hw hZ hR1 hih hop hg
    | 24, hop, hg => exact zo_new (a := a) (b := b) (nx := nx) hx hb h0 hown hw hR1 hih hop hg
    | 25, hop, hg => exact zo_dup (a := a) (b := b) (nx := nx) hx hb h0 hih hop hg
    | 26, hop, hg => exact zo_pop (a := a) (b := b) (nx := nx) hx hb h0 hih hop hg
    | 27, hop, hg => exact zo_mm (a := a) (b := b) (nx := nx) hx hb hml h0 hown hw hR2 hR3 hR1 hih hop hg
    | 28, hop, hg => exact bad hg
    | 29, hop, hg => exact zo_null (a := a) (b := b) (nx := nx) hx hb h0 hih hop hg
    | 30, hop, hg => exact zo_tab (a := a) (b := b) (nx := nx) hx hb h0 hih hop hg
    | 31, hop, hg => exact zo_lku (a := a) (b := b) (nx := nx) hx hb h0 hih hop hg
    | 32, hop, hg => exact zo_acmp (a := a) (b := b) (nx := nx) hx hb h0 hih hop hg
    | 33, hop, hg => exact zo_oini (a := a) (b := b) (nx := nx) hx hb hml h0 hown hw hR2 (by omega) hih hop hg
    | 34, hop, hg => exact zo_copy (a := a) (b := b) (nx := nx) hx hb hml h0 hown hw hR2 hR3 hih hop hg
    | 35, hop, hg => exact hoz pc L st M hg
    | k + 36, hop, hg => exact bad hg
end ZLOOP
/-- the locals with which a method begins -/
theorem zargs_ok {ρ : Nat → Int} {α : Nat → Nat} : ∀ (as : List Nat) (L i j : Nat), (∀ x ∈ as, x ≤ 110680464442257309695) → (j, zv ρ α (bget (zargs as L i) j)) ∈ lv_args i (as.map (zv ρ α)) ∨ bget (zargs as L i) j = bget L j
  | [], L, i, j, _ => Or.inr rfl
  | v :: t, L, i, j, h => by
    have hv := h v List.mem_cons_self
    have ht : ∀ x ∈ t, x ≤ 110680464442257309695 := fun x hx => h x (List.mem_cons_of_mem _ hx)
    have key : zargs (v :: t) L i = frc (bset L i v) fun L => cond (Nat.beq (zkd v) 1) (zargs t L (Nat.add i 2)) (zargs t L (Nat.succ i)) := rfl
    rw [key, frc_eq, List.map_cons]
    have key2 : lv_args i (zv ρ α v :: t.map (zv ρ α)) = (i, zv ρ α v) :: lv_args (if (zv ρ α v).category = 2 then i + 2 else i + 1) (t.map (zv ρ α)) := rfl
    rw [key2]
    have fin : ∀ i2, ((j, zv ρ α (bget (zargs t (bset L i v) i2) j)) ∈ lv_args i2 (t.map (zv ρ α)) ∨ bget (zargs t (bset L i v) i2) j = bget (bset L i v) j) → (j, zv ρ α (bget (zargs t (bset L i v) i2) j)) ∈ (i, zv ρ α v) :: lv_args i2 (t.map (zv ρ α)) ∨ bget (zargs t (bset L i v) i2) j = bget L j := by
      intro i2 hz
      rcases hz with hz | hz
      · exact Or.inl (List.mem_cons_of_mem _ hz)
      · rw [bget_bset (by omega)] at hz
        by_cases ej : j = i
        · rw [if_pos ej] at hz
          left
          rw [hz, ej]
          exact List.mem_cons_self
        · rw [if_neg ej] at hz
          exact Or.inr hz
    cases k : Nat.beq (zkd v) 1 with
    | true =>
      rw [cond_true, zv_cat2 (zbeq_t k), if_pos rfl, zadd]
      exact fin _ (zargs_ok t _ _ j ht)
    | false =>
      rw [cond_false, zv_cat1 (zbeq_f k), if_neg (by decide), zsuc]
      exact fin _ (zargs_ok t _ _ j ht)
theorem zsl_len {ρ : Nat → Int} {α : Nat → Nat} : ∀ (as : List Nat), (lg_sl (as.map (zv ρ α))).length = zwt as
  | [] => rfl
  | v :: t => by
    have key : zwt (v :: t) = cond (Nat.beq (zkd v) 1) (Nat.succ (Nat.succ (zwt t))) (Nat.succ (zwt t)) := rfl
    have key2 : lg_sl (zv ρ α v :: t.map (zv ρ α)) = (if (zv ρ α v).category = 2 then [.val (zv ρ α v), .second] else [.val (zv ρ α v)]) ++ lg_sl (t.map (zv ρ α)) := rfl
    rw [List.map_cons, key2, key, List.length_append, zsl_len t]
    cases k : Nat.beq (zkd v) 1 with
    | true => rw [cond_true, zv_cat2 (zbeq_t k), if_pos rfl]; show 2 + zwt t = zwt t + 1 + 1; omega
    | false => rw [cond_false, zv_cat1 (zbeq_f k), if_neg (by decide)]; show 1 + zwt t = zwt t + 1; omega
/-- every method: what the reader tells of a call, the machine does -/
theorem zmet (l : Launch) {D : va_G} {ρ : Nat → Int} {b0 B0 : Nat} {zn : List Cond} (hzn : ∀ w ∈ zn, ∃ a i x h, w = .methodLinkNest a i x h) {E : zE} {MI : zMI} {N : Nat} (hE : ∀ mi, mi < N → zMtOK E zn MI N mi) {Df : zD} (hDf : zdOK ρ Df) {om : Nat → Bool} {oc : zCal} {F : Nat}
    (hoc : ∀ (d mi : Nat) (S : zS) (as : List Nat) (h : zH) (len : Nat), mi < N → om mi = true → zsat ρ S → (∀ x ∈ as, x ≤ 110680464442257309695) → zgood (fun o => o.1 = 1) (oc mi S as h len) → Met l (MI mi).1 (zws (MI mi).1 (MI mi).2.1 (MI mi).2.2.1 (MI mi).2.2.2) (zrm (d + 1) (zmt E.1 mi).2.2.1 (zmt E.1 mi).2.2.2.1) (zPc D ρ b0 B0 zn as h len) (zQc D ρ b0 B0 (oc mi S as h len)) (zmt E.1 mi).2.2.1 (zmt E.1 mi).2.2.2.1 (fun q => B0 ≤ q)) :
    ∀ (d mi : Nat) (S : zS) (as : List Nat) (h : zH) (len : Nat), mi < N → zsat ρ S → (∀ x ∈ as, x ≤ 110680464442257309695) → zgood (fun o => o.1 = 1) (zrun E Df om oc znz F d mi S as h len) →
      Met l (MI mi).1 (zws (MI mi).1 (MI mi).2.1 (MI mi).2.2.1 (MI mi).2.2.2) (zrm d (zmt E.1 mi).2.2.1 (zmt E.1 mi).2.2.2.1) (zPc D ρ b0 B0 zn as h len) (zQc D ρ b0 B0 (zrun E Df om oc znz F d mi S as h len)) (zmt E.1 mi).2.2.1 (zmt E.1 mi).2.2.2.1 (fun q => B0 ≤ q) := by
  intro d
  induction d with
  | zero => intro mi S as h len _ _ _ hg; exact (zgood_no (fun _ q => q) hg).elim
  | succ d ihd =>
    intro mi S as h len hmi hS has hg
    have key : zrun E Df om oc znz F (d + 1) mi S as h len = cond (om mi) (oc mi S as h len) (zrun1 (zHs E Df (zrun E Df om oc znz F d) (znz mi)) F S as h len (zmt E.1 mi)) := rfl
    rw [key] at hg ⊢
    cases hom : om mi with
    | true =>
      rw [hom, cond_true] at hg
      rw [cond_true]
      exact hoc d mi S as h len hmi hom hS has hg
    | false =>
      rw [hom, cond_false] at hg
      rw [cond_false]
      unfold zrun1 at hg ⊢
      obtain ⟨hwt, hg⟩ := zgc (fun _ q => q) hg
      rw [hwt, cond_true, frc_eq]
      rw [frc_eq] at hg
      have hwt := zble_t hwt
      obtain ⟨e1, e2, e3, e4, e5⟩ := hE mi hmi
      generalize hOut : zloop (zHs E Df (zrun E Df om oc znz F d) (znz mi)) (zmt E.1 mi).1 F 0 (zargs as (zmt E.1 mi).2.1 0) [] (S, h, len, (zmt E.1 mi).2.2.1, (zmt E.1 mi).2.2.2.1) = outs at hg ⊢
      refine Met.ofW (cc := (MI mi).2.1) (maxL := (MI mi).2.2.1) (ret := (MI mi).2.2.2) e2 rfl ?_
      intro p e s m args below meth c s₁ B hml hv
      obtain ⟨rfl, hh, hZ⟩ := hv
      have hx := B.exec
      have hb := B.bytes
      have hr := B.returns
      have hts := atoms_spec (ws := zws (MI mi).1 (MI mi).2.1 (MI mi).2.2.1 (MI mi).2.2.2) B.pre
      have hw : ∀ w ∈ zGW, w.before ((as.map (zv ρ (zα b0 B0))).toArray) s = true := fun w h => hts w (List.mem_cons_of_mem _ h)
      have hown : s.vm.findClass (MI mi).1.cls = some m.cls := findClass_of_methodNamed B.named
      have hlocks := B.notSynchronized
      have hyn : meth.name = (MI mi).1.name := (name_of_methodNamed B.named B.method).1
      have hret : zRetOK p l e (zrm (d + 1) (zmt E.1 mi).2.2.1 (zmt E.1 mi).2.2.2.1) s m ((as.map (zv ρ (zα b0 B0))).toArray) below meth c (MQ below (zQc D ρ b0 B0 outs) ((as.map (zv ρ (zα b0 B0))).toArray) s (zmt E.1 mi).2.2.1 (zmt E.1 mi).2.2.2.1 (fun q => B0 ≤ q)) (MI mi).2.1 (MI mi).2.2.2 D ρ b0 B0 (zmt E.1 mi).2.2.1 (zmt E.1 mi).2.2.2.1 (fun o => o.1 = 1 ∧ o ∈ outs) := by
        intro o H locs cells slots pc ls hP hs1 hh1 hS1 hc1 hc2 hz
        have hq : ∀ t : State, t.heap = H → s.WarmedH t.vm → zQc D ρ b0 B0 outs ((as.map (zv ρ (zα b0 B0))).toArray) s (.returned (zrv ρ (zα b0 B0) o.2.1)) t := by
          intro t ht hW
          exact ⟨o, hP.2, hP.1, hs1, rfl, by rw [ht]; exact zHR.moved hW.alike hh1, hS1.F ht⟩
        refine W.widen hc1 hc2 ?_
        rcases hz with ⟨hv, hd, hre⟩ | ⟨hv, hd, hre⟩ | ⟨hv, hd, hre⟩ | ⟨hv, hd, rt, hre, hrt⟩
        · have ez : zrv ρ (zα b0 B0) o.2.1 = none := by unfold zrv; rw [if_pos hv]
          rw [ez] at hq ⊢
          exact W.vret hx hb (hr.trans hre) hq hS1.2.2 hd hlocks
        · have ez : zrv ρ (zα b0 B0) o.2.1 = some (.int (zvi ρ o.2.1)) := by
            unfold zrv
            rw [zv_i hv]
            rw [zkd_eq] at hv
            rw [if_neg (by omega)]
          rw [ez] at hq ⊢
          rcases hre with hre | ⟨hre, hv1⟩
          · exact W.iret hx hb (hr.trans hre) hq hS1.2.2 hd hlocks
          · refine W.zret hx hb (hr.trans hre) ?_ hq hS1.2.2 hd hlocks
            rw [zvi_lo (by omega)]
            rcases (show o.2.1 = 0 ∨ o.2.1 = 1 by omega) with q | q <;> rw [q] <;> decide
        · have ez : zrv ρ (zα b0 B0) o.2.1 = some (.long (zvl ρ o.2.1)) := by
            unfold zrv
            rw [zv_l hv]
            rw [zkd_eq] at hv
            rw [if_neg (by omega)]
          rw [ez] at hq ⊢
          exact W.lret hx hb (hr.trans hre) hq hS1.2.2 hd hlocks
        · have ez : zrv ρ (zα b0 B0) o.2.1 = some (va_rf (zvr (zα b0 B0) o.2.1)) := by
            unfold zrv
            rw [zv_r (by omega)]
            rw [zkd_eq] at hv
            rw [if_neg (by omega)]
          rw [ez] at hq ⊢
          exact W.aret hx hb (hr.trans hre) hrt (va_rf_or _) hq hS1.2.2 hd hlocks
      have main := zloop_ok (nL := (MI mi).2.2.1) (R := zrm (d + 1) (zmt E.1 mi).2.2.1 (zmt E.1 mi).2.2.2.1) (P := fun o => o.1 = 1 ∧ o ∈ outs) (E := E) (MI := MI) (N := N) (Df := Df) (cal := zrun E Df om oc znz F d) (oz := znz mi) (code := (zmt E.1 mi).1)
        hx hb hml (fun o q => q.1) hown hyn hw hzn hZ ⟨Nat.le_refl _, Nat.le_refl _, Nat.le_refl _, Nat.le_refl _⟩ hret hDf (fun pc L st M hz => (zgood_no (fun o q => q.1) hz).elim) (fun a S as h len g0 g1 g2 g3 => ihd a S as h len g0 g1 g2 g3) e5 F
      rw [lg_entry_eq]
      have hlen : (lg_sl (as.map (zv ρ (zα b0 B0)))).length ≤ (MI mi).2.2.1 := by rw [zsl_len, ← e3]; exact hwt
      have hle := lv_entry (as.map (zv ρ (zα b0 B0))) hlen
      refine main 0 _ [] _ (by rw [hOut]; exact fun o ho => ⟨hg o ho, ho⟩) s.heap [] 0 0 _ ⟨hS, hh, va_S.rf, Nat.zero_add _, Nat.zero_add _⟩ (zhas_sub hle fun q hq => ?_)
      obtain ⟨q1, q2, q3⟩ := zLs_mem.mp hq
      rcases zargs_ok (ρ := ρ) (α := zα b0 B0) as (zmt E.1 mi).2.1 0 q.1 has with hz | hz
      · rw [← q3] at hz
        exact hz
      · rw [hz] at q2
        have := e4 q.1 q1
        omega
