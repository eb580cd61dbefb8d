def znl : List Cond := [.methodLinkNest "RosterLanes" (11 : Nat) ({ cls := "RosterLanes$Plan", name := "<init>", desc := "()V" } : Jvm.MethodName) RX11, .methodLinkNest "RosterLanes" (27 : Nat) ({ cls := "RosterLanes$Text", name := "<init>", desc := "()V" } : Jvm.MethodName) RX11, .methodLinkNest "RosterLanes" (37 : Nat) ({ cls := "RosterLanes$Lists", name := "<init>", desc := "()V" } : Jvm.MethodName) RX11, .methodLinkNest "RosterLanes" (44 : Nat) ({ cls := "RosterLanes$Ways", name := "<init>", desc := "()V" } : Jvm.MethodName) RX11, .methodLinkNest "RosterLanes" (51 : Nat) ({ cls := "RosterLanes$BestRow", name := "<init>", desc := "()V" } : Jvm.MethodName) RX11, .methodLinkNest "RosterLanes" (58 : Nat) ({ cls := "RosterLanes$Mends", name := "<init>", desc := "()V" } : Jvm.MethodName) RX11, .methodLinkNest "RosterLanes" (65 : Nat) ({ cls := "RosterLanes$Exchanges", name := "<init>", desc := "()V" } : Jvm.MethodName) RX11, .methodLinkNest "RosterLanes" (123 : Nat) ({ cls := "RosterLanes$Maker", name := "<init>", desc := "()V" } : Jvm.MethodName) RX11, .methodLinkNest "RosterLanes$Maker" (11 : Nat) ({ cls := "RosterLanes$Pattern", name := "<init>", desc := "()V" } : Jvm.MethodName) RX11, .methodLinkNest "RosterLanes$Pattern" (102 : Nat) ({ cls := "RosterLanes", name := "shiftOf", desc := "(I)I" } : Jvm.MethodName) RX11, .methodLinkNest "RosterLanes$Text" (19 : Nat) ({ cls := "RosterLanes", name := "shiftOf", desc := "(I)I" } : Jvm.MethodName) RX11, .methodLinkNest "RosterLanes$Plan" (71 : Nat) ({ cls := "RosterLanes", name := "rosterPlace", desc := "(II)I" } : Jvm.MethodName) RX11, .methodLinkNest "RosterLanes$Plan" (75 : Nat) ({ cls := "RosterLanes", name := "wishPlace", desc := "(III)I" } : Jvm.MethodName) RX11, .methodLinkNest "RosterLanes$Mends" (58 : Nat) ({ cls := "RosterLanes", name := "rosterPlace", desc := "(II)I" } : Jvm.MethodName) RX11]
def znp : List (Nat × Nat) := [(0, 27), (0, 104), (0, 120), (0, 134), (0, 147), (0, 168), (0, 196), (1, 95), (1, 101), (1, 208), (2, 144), (2, 159), (2, 164), (3, 95)]

/-! A place of a method's code; a method -/
/-- a method: what it is, how many arguments, by which call (0 static, 100 special, else one more than its class), where its words are -/
abbrev zR : Type := (MethodName × ByteArray × Nat × Option FieldType) × (Nat × Nat) × (Nat × Nat) × (Nat × Nat) × (Nat × Nat) × (Nat × Nat)
def zkR (r : zR) : Bool :=
  zmb r.2.2.1 (.code r.1.1 r.1.2.1 r.1.2.2.1 r.1.2.2.2) && (zmb r.2.2.2.1 (.initialized r.1.1.cls) && (decide (r.1.2.2.1 ≤ 150) && (decide (r.1.1.cls ≠ "java/lang/invoke/MethodHandle" ∧ r.1.1.cls ≠ "java/lang/invoke/VarHandle") && (decide (plainName r.1.1.cls = true) &&
  (decide ((parseMethodDescriptor r.1.1.desc).map (fun d => d.parameters.length) = some r.2.1.1) &&
  (if r.2.1.2 = 0 then zmb r.2.2.2.2.1 (.static r.1.1) else if r.2.1.2 = 100 then decide (r.1.1.name = "<init>") && (decide (r.1.2.2.2 = none) && zmb r.2.2.2.2.1 (.instanceMethod r.1.1)) else
    decide (r.2.1.2 - 1 < 13) && ((match vwCl[r.2.1.2 - 1]? with | some q => decide (q.1 = r.1.1.cls) | none => false) && (zmb r.2.2.2.2.1 (.instanceMethod r.1.1) && zmb r.2.2.2.2.2 (.selects r.1.1.cls r.1.1 r.1.1)))))))))
def zk_call (rr : Nat → zR) (N : Nat) (cc : ByteArray) (own : String) (pc a b nx x : Nat) : Bool := decide (a < N) && (decide (nx = pc + 3) && ((zmb (zpx x) (.methodLink own (x % 4096) (rr a).1.1) || (decide ((zpx x).1 = 6) && decide (znl[(zpx x).2]? = some (.methodLinkNest own (x % 4096) (rr a).1.1 RX11)))) &&
  (decide (b / 64 = (rr a).2.1.2) && (if (rr a).2.1.2 = 0 then decide (b % 64 = (rr a).2.1.1) && zdc cc pc (.invokestatic (x % 4096)) 3 else decide (b % 64 = (rr a).2.1.1 + 1) && (if (rr a).2.1.2 = 100 then zdc cc pc (.invokespecial (x % 4096)) 3 else zdc cc pc (.invokevirtual (x % 4096)) 3)))))
theorem zk_call_t {rr : Nat → zR} {N : Nat} {cc : ByteArray} {own : String} {pc a b nx x : Nat} (hr : a < N → zkR (rr a) = true) (h : zk_call rr N cc own pc a b nx x = true) : a < N ∧ zd_call cc own znl pc b nx (rr a).1.1 (rr a).1.2.1 (rr a).1.2.2.1 (rr a).1.2.2.2 := by
  obtain ⟨h1, h⟩ := zan h
  obtain ⟨h2, h⟩ := zan h
  obtain ⟨h3, h⟩ := zan h
  obtain ⟨h4, h⟩ := zan h
  have h1 := zde h1
  have h4 := zde h4
  have hr := hr h1
  obtain ⟨r1, hr⟩ := zan hr
  obtain ⟨r2, hr⟩ := zan hr
  obtain ⟨r3, hr⟩ := zan hr
  obtain ⟨r4, hr⟩ := zan hr
  obtain ⟨r5, hr⟩ := zan hr
  obtain ⟨r6, hr⟩ := zan hr
  refine ⟨h1, zde h2, zmb_t r1, zmb_t r2, zde r3, zde r4, x % 4096, ?_, ?_⟩
  · rw [Bool.or_eq_true] at h3
    rcases h3 with h3 | h3
    · exact Or.inl (zmb_t h3)
    · obtain ⟨-, h3⟩ := zan h3
      exact Or.inr ⟨_, List.mem_of_getElem? (zde h3)⟩
  have r6 := zde r6
  rcases zif h with ⟨hk, h⟩ | ⟨hk, h⟩
  · rw [if_pos hk] at hr
    obtain ⟨h5, h6⟩ := zan h
    have h5 := zde h5
    exact Or.inl ⟨by rw [h4, hk], zdc_t h6, zmb_t hr, by rw [h5]; exact r6⟩
  · rw [if_neg hk] at hr
    obtain ⟨h5, h⟩ := zan h
    have h5 := zde h5
    have hpar : (parseMethodDescriptor (rr a).1.1.desc).map (fun d => d.parameters.length + 1) = some (b % 64) := by
      cases hp : parseMethodDescriptor (rr a).1.1.desc with
      | none => rw [hp] at r6; cases r6
      | some dd =>
        rw [hp] at r6
        have r7 : dd.parameters.length = (rr a).2.1.1 := Option.some.inj r6
        show some (dd.parameters.length + 1) = _
        rw [r7, h5]
    rcases zif h with ⟨hk2, h⟩ | ⟨hk2, h⟩
    · rw [if_pos hk2] at hr
      obtain ⟨g1, hr⟩ := zan hr
      obtain ⟨g2, g3⟩ := zan hr
      exact Or.inr (Or.inl ⟨by rw [h4, hk2], zdc_t h, zde g1, zde g2, zmb_t g3, hpar⟩)
    · rw [if_neg hk2] at hr
      obtain ⟨g1, hr⟩ := zan hr
      obtain ⟨g2, hr⟩ := zan hr
      obtain ⟨g3, g4⟩ := zan hr
      split at g2
      · rename_i q hq
        exact Or.inr (Or.inr ⟨(rr a).2.1.2 - 1, q, by omega, zde g1, hq, zde g2, zdc_t h, zmb_t g3, zmb_t g4, hpar⟩)
      · cases g2
def zk_mm (cc : ByteArray) (own : String) (pc a nx x : Nat) : Bool := decide (nx = pc + 3) && (zdc cc pc (.invokestatic (x % 4096)) 3 && (if a = 0 then zmb (zpx x) (.methodLink own (x % 4096) Lib.Math.min.name) else decide (a = 1) && zmb (zpx x) (.methodLink own (x % 4096) Lib.Math.max.name)))
theorem zk_mm_t {cc : ByteArray} {own : String} {pc a nx x : Nat} (h : zk_mm cc own pc a nx x = true) : zd_mm cc own pc a nx := by
  obtain ⟨h1, h⟩ := zan h
  obtain ⟨h2, h⟩ := zan h
  refine ⟨zde h1, _, zdc_t h2, zw_mi, ?_⟩
  rcases zif h with ⟨ha, h⟩ | ⟨-, h⟩
  · exact Or.inl ⟨ha, zmb_t h, zw_mm1, zw_mm2⟩
  · obtain ⟨ha, h⟩ := zan h
    exact Or.inr ⟨zde ha, zmb_t h, zw_mm3, zw_mm4⟩
def zkO (E : zE) (rr : Nat → zR) (N : Nat) (own yn : String) (cc : ByteArray) (nL : Nat) (ret : Option FieldType) (pc o a b nx x : Nat) : Bool := match o with
  | 1 => zk_load cc nL pc a b nx x
  | 2 => zk_getf cc own pc a b nx x
  | 3 => zk_push cc own ((x / 8) % 8, x / 64) pc a b nx (x % 8)
  | 4 => zk_ib cc pc a nx
  | 5 => zk_ald cc pc a nx
  | 6 => zk_icmp cc pc a b nx
  | 7 => zk_store cc nL pc a b nx x
  | 8 => zdc cc pc (.goto (zof pc b)) 3
  | 9 => zk_iinc cc nL pc a b nx
  | 10 => zk_if cc pc a b nx
  | 11 => zk_call rr N cc own pc a b nx x
  | 12 => zk_xret cc ret pc a b
  | 13 => zk_putf cc own yn pc a b nx x
  | 14 => zk_ast cc pc a nx
  | 15 => zdc cc pc .return_ 1 && decide (ret = none)
  | 16 => zk_cv cc pc a nx
  | 17 => zdc cc pc .lcmp 1 && zk_if cc (pc + 1) a b nx
  | 18 => zk_lb cc pc a nx
  | 19 => zk_ls cc pc a nx
  | 20 => zk_lstore cc nL pc a nx x
  | 21 => decide (nx = pc + 1) && zdc cc pc .arraylength 1
  | 22 => zk_newa cc pc a nx
  | 23 => zk_anewa cc own pc a nx x
  | 24 => zk_new cc own pc a nx x (E.2.1.getD a (0, 0))
  | 25 => decide (nx = pc + 1) && zdc cc pc .dup 1
  | 26 => decide (nx = pc + 1) && zdc cc pc .pop 1
  | 27 => zk_mm cc own pc a nx x
  | 29 => zk1 cc pc a nx 3 [(0, .ifnull (zof pc b)), (1, .ifnonnull (zof pc b))]
  | 30 => zk_tab cc pc (E.2.2.1.getD a (0, [], 0))
  | 31 => zk_lku cc pc (E.2.2.2.getD a ([], 0))
  | 32 => zk1 cc pc a nx 3 [(0, .if_acmp .eq (zof pc b)), (1, .if_acmp .ne (zof pc b))]
  | 33 => zk_oini cc own pc nx x
  | 34 => zk_copy cc own pc nx x
  | _ => true
theorem zkO_t {E : zE} {rr : Nat → zR} {N : Nat} {own yn : String} {cc : ByteArray} {nL : Nat} {ret : Option FieldType} {pc o a b nx x : Nat} (hr : ∀ a, a < N → zkR (rr a) = true) (h : zkO E rr N own yn cc nL ret pc o a b nx x = true) : zOpOK E znl (fun a => (rr a).1) N own yn cc nL ret pc o a b nx := by
  match o, h with
  | 0, h => exact trivial
  | 1, h => exact zk_load_t h
  | 2, h => exact zk_getf_t h
  | 3, h => exact zk_push_t h
  | 4, h => exact zk_ib_t h
  | 5, h => exact zk_ald_t h
  | 6, h => exact zk_icmp_t h
  | 7, h => exact zk_store_t h
  | 8, h => exact ⟨zof pc b, zdc_t h, zof_t pc b⟩
  | 9, h => exact zk_iinc_t h
  | 10, h => exact zk_if_t h
  | 11, h => exact zk_call_t (hr a) h
  | 12, h => exact zk_xret_t h
  | 13, h => exact zk_putf_t h
  | 14, h => exact zk_ast_t h
  | 15, h => exact ⟨zdc_t (zan h).1, zde (zan h).2⟩
  | 16, h => exact zk_cv_t h
  | 17, h =>
    obtain ⟨h1, h⟩ := zan h
    obtain ⟨h2, off, h3, h4⟩ := zk_if_t h
    exact ⟨zdc_t h1, h2, off, h3, h4⟩
  | 18, h => exact zk_lb_t h
  | 19, h => exact zk_ls_t h
  | 20, h => exact zk_lstore_t h
  | 21, h => exact ⟨zde (zan h).1, zdc_t (zan h).2⟩
  | 22, h => exact zk_newa_t h
  | 23, h => exact zk_anewa_t h
  | 24, h => exact zk_new_t h
  | 25, h => exact ⟨zde (zan h).1, zdc_t (zan h).2⟩
  | 26, h => exact ⟨zde (zan h).1, zdc_t (zan h).2⟩
  | 27, h => exact zk_mm_t h
  | 28, h => exact trivial
  | 29, h =>
    obtain ⟨h1, q, hq, h2, h3⟩ := zk1_t h
    refine ⟨h1, zof pc b, ?_, zof_t pc b⟩
    simp only [List.mem_cons, List.not_mem_nil, or_false] at hq
    rcases hq with rfl | rfl
    · exact Or.inl ⟨h2, h3⟩
    · exact Or.inr ⟨h2, h3⟩
  | 30, h => exact zk_tab_t h
  | 31, h => exact zk_lku_t h
  | 32, h =>
    obtain ⟨h1, q, hq, h2, h3⟩ := zk1_t h
    refine ⟨h1, zof pc b, ?_, zof_t pc b⟩
    simp only [List.mem_cons, List.not_mem_nil, or_false] at hq
    rcases hq with rfl | rfl
    · exact Or.inl ⟨h2, h3⟩
    · exact Or.inr ⟨h2, h3⟩
  | 33, h => exact zk_oini_t h
  | 34, h => exact zk_copy_t h
  | k + 35, h => exact trivial
/-- every place of a method's code -/
noncomputable def zkA (f : Nat → Nat → Bool) (n : Nat) : Nat → Nat → Bool :=
  Nat.rec (motive := fun _ => Nat → Nat → Bool) (fun _ code => Nat.beq code 0) (fun _ ih pc code => and (f pc (Nat.mod code 1461501637330902918203684832716283019655932542976)) (frc (Nat.succ pc) fun pc => frc (Nat.shiftRight code 160) fun code => ih pc code)) n
theorem zfet_zero (code : Nat) : zfet code 0 = Nat.mod code 1461501637330902918203684832716283019655932542976 := by
  unfold zfet
  rw [zshr, zmul, Nat.mul_zero, Nat.shiftRight_zero]
theorem zfet_succ (code q : Nat) : zfet code (q + 1) = zfet (Nat.shiftRight code 160) q := by
  unfold zfet
  rw [zshr, zshr, zmul, zmul, zshr, ← Nat.shiftRight_add, Nat.mul_add, Nat.mul_one, Nat.add_comm]
theorem zfet_nul (q : Nat) : zfet 0 q = 0 := by
  unfold zfet
  rw [zshr, Nat.zero_shiftRight, zmod, Nat.zero_mod]
theorem zkA_t {f : Nat → Nat → Bool} {P : Nat → Nat → Prop} (h0 : ∀ q, P q 0) (hf : ∀ q x, f q x = true → P q x) : ∀ (n pc code : Nat), zkA f n pc code = true → ∀ q, P (pc + q) (zfet code q)
  | 0, pc, code, h, q => by
    have h : Nat.beq code 0 = true := h
    rw [zbeq_t h, zfet_nul]
    exact h0 _
  | n + 1, pc, code, h, q => by
    have h : and (f pc (Nat.mod code 1461501637330902918203684832716283019655932542976)) (frc (Nat.succ pc) fun pc => frc (Nat.shiftRight code 160) fun code => zkA f n pc code) = true := h
    obtain ⟨h1, h2⟩ := zan h
    rw [frc_eq, frc_eq, zsuc] at h2
    cases q with
    | zero => rw [zfet_zero]; exact hf _ _ h1
    | succ q =>
      have := zkA_t h0 hf n (pc + 1) (Nat.shiftRight code 160) h2 q
      rw [zfet_succ, show pc + (q + 1) = pc + 1 + q by omega]
      exact this
noncomputable def zkC (E : zE) (rr : Nat → zR) (N : Nat) (own yn : String) (cc : ByteArray) (nL : Nat) (ret : Option FieldType) (n code : Nat) : Bool :=
  zkA (fun pc x => zkO E rr N own yn cc nL ret pc (x % 256) (x >>> 88) ((x >>> 32) % 4294967296) ((x >>> 8) % 16777216) ((x >>> 64) % 16777216)) n 0 code
theorem zkC_t {E : zE} {rr : Nat → zR} {N : Nat} {own yn : String} {cc : ByteArray} {nL : Nat} {ret : Option FieldType} {n code : Nat} (hr : ∀ a, a < N → zkR (rr a) = true) (h : zkC E rr N own yn cc nL ret n code = true) (pc : Nat) : zPcOK E znl (fun a => (rr a).1) N own yn cc nL ret pc (zfet code pc) := by
  have := zkA_t (P := fun pc x => zPcOK E znl (fun a => (rr a).1) N own yn cc nL ret pc x) (fun q => trivial) (fun q x hx => zkO_t hr hx) n 0 code h pc
  rw [Nat.zero_add] at this
  exact this
noncomputable def zkM (E : zE) (rr : Nat → zR) (N : Nat) (mi : Nat) : Bool :=
  decide ((zmt E.1 mi).2.2.2.2 = (rr mi).1.2.2.1) && ((List.range (rr mi).1.2.2.1).all (fun i => Nat.ble 3 (zkd (bget (zmt E.1 mi).2.1 i))) && zkC E rr N (rr mi).1.1.cls (rr mi).1.1.name (rr mi).1.2.1 (rr mi).1.2.2.1 (rr mi).1.2.2.2 (rr mi).1.2.1.size (zmt E.1 mi).1)
theorem zkM_t {E : zE} {rr : Nat → zR} {N : Nat} {mi : Nat} (hr : ∀ a, a < N → zkR (rr a) = true) (hm : mi < N) (h : zkM E rr N mi = true) : zMtOK E znl (fun a => (rr a).1) N mi := by
  obtain ⟨h1, h⟩ := zan h
  obtain ⟨h2, h3⟩ := zan h
  have hq := hr mi hm
  obtain ⟨r1, hq⟩ := zan hq
  obtain ⟨-, hq⟩ := zan hq
  obtain ⟨-, hq⟩ := zan hq
  obtain ⟨-, hq⟩ := zan hq
  obtain ⟨r5, -⟩ := zan hq
  exact ⟨zmb_t r1, zde r5, zde h1, fun i hi => zble_t (List.all_eq_true.mp h2 i (List.mem_range.mpr hi)), fun pc => zkC_t hr h3 pc⟩
