/-! THE CLAIM OUT OF ONE WALK OF THE LAW'S BODY. Your part is whole_start (and what it stands on); all else here is the same for every law, but numbers. -/
def R_law : String := "RosterLanesLaw"
def lw_P (b : Addr) (xs : List Int32) (args : Array Value) (s : State) : Prop := args = #[.ref b] ∧ s.IntsAt b xs ∧ xs.length ≤ 5 ∧ (Jvm.Cond.and given_1 narrow_1).before args s = true
def lw_Q (_ : Array Value) (s : State) (o : Outcome) (t : State) : Prop := o = .returned (some (.int 1)) ∧ Framed s o t [] 600000 7302250
def lw_Z (below : List Frame) (a : Array Value) (s : State) : State → Prop := fun t => ∃ o, t.status = .running ∧ Ended t below o ∧ lw_Q a s o t
/-- the law's own end, with 1 on the stack, nothing written that was there before, its room as the claim has it -/
theorem lw_ret {p : Program} {l : Launch} {e : Env} {s : State} {m : MethodId} {below : List Frame} {meth : Method} {c : Code} {b : Nat} (hx : p.tables.exec = Jvm.exec) (hb : c.code = code) (hr : meth.sig.returnType = ret) (hlocks : meth.locks = false) {pc : Nat} {H : Heap} {ls : Array Slot} (hdg : decode code pc = .ok (.ireturn, 1)) : W p l e room_1 s m #[Value.ref b] below meth c H [] 600000 7302250 (lw_Z below #[Value.ref b] s) (F0 m pc ls [.int 1]) := by
  intro T hT X
  obtain ⟨fs, hret, hrun, hended, hW, hframe⟩ := X.leave (v := some (.int 1)) (hlocks := hlocks) (fun h => by rw [hr] at h; cases h)
  have hmeth' : T.vm.method? m = some meth := X.method'
  refine ⟨T.setFrames fs, ?_, .returned (some (.int 1)), hrun, hended, rfl, ⟨_, rfl⟩, hW, hframe⟩
  jvm_step X.here [X.here.top, hx, hb, hdg, hmeth', hr, ret, narrow_b1]
  (try refine ⟨rfl, ?_⟩); (try refine ⟨rfl, ?_⟩)
  first | (intro acts; rw [hret _ acts rfl rfl rfl]) | rw [hret _ _ rfl rfl rfl]
  exact Steps.refl _
/-- what holds at the law's entry: the machine, the code, the tables' words (any of lw_tbl by 'hts w (by decide +kernel)'), the script of L ints xs at the cell b, what the Statement gives of the start (any of its parts by flat_of_before) -/
def lw_At (p : Program) (s : State) (m : MethodId) (meth : Method) (c : Code) (b L : Nat) (xs : Nat → Int32) : Prop :=
  p.tables.exec = Jvm.exec ∧ c.code = code ∧ meth.sig.returnType = ret ∧ c.maxLocals = 4 ∧ s.vm.findClass R_law = some m.cls ∧ (∀ w ∈ lw_tbl, w.before #[Value.ref b] s = true) ∧ va_X b L xs s s.heap ∧ b < s.heap.size ∧ meth.locks = false ∧ (Jvm.Cond.and given_1 narrow_1).before #[Value.ref b] s = true
def zscr (L : Nat) : Nat := match L with
  | 0 => nat_lit 0
  | 1 => nat_lit 18446744073709551616
  | 2 => nat_lit 87112285931760246651364712729476016898048
  | 3 => nat_lit 411376139330301510583430898322330632775406767666421164866011136
  | 4 => nat_lit 1942668892225729071235810157968520768246744353001473148841273102708218040133007441920
  | _ => nat_lit 9173994463960286048434519195739720060879024759418376376120426705090083847264636412955420418530769255792640
def zrow0 : List zC := [(nat_lit 99, nat_lit 0, nat_lit 0), (nat_lit 99, nat_lit 0, nat_lit 0), (nat_lit 99, nat_lit 0, nat_lit 0), (nat_lit 99, nat_lit 0, nat_lit 0), (nat_lit 99, nat_lit 0, nat_lit 0), (nat_lit 99, nat_lit 0, nat_lit 0), (nat_lit 99, nat_lit 0, nat_lit 0), (nat_lit 99, nat_lit 0, nat_lit 0)]
def zH0 (L : Nat) : zH := [[(nat_lit 100, L, zscr L), (nat_lit 99, nat_lit 0, nat_lit 0), (nat_lit 99, nat_lit 0, nat_lit 0), (nat_lit 99, nat_lit 0, nat_lit 0), (nat_lit 99, nat_lit 0, nat_lit 0), (nat_lit 99, nat_lit 0, nat_lit 0), (nat_lit 99, nat_lit 0, nat_lit 0), (nat_lit 99, nat_lit 0, nat_lit 0)], zrow0, zrow0, zrow0, zrow0, zrow0, zrow0, zrow0, zrow0, zrow0, zrow0, zrow0, zrow0, zrow0, zrow0, zrow0]
def zL0 : Nat := nat_lit 11656013353354374425519239697777095248917674010760388743829828442049060072517084905472
def zD0 : zD := [(nat_lit 3, nat_lit 18446744073709551616, nat_lit 63, nat_lit 18446744073709551621), (nat_lit 30, nat_lit 55340232221128654849, nat_lit 32, nat_lit 55340232221128654854), (nat_lit 23, nat_lit 55340232221128654850, nat_lit 36893488151714070527, nat_lit 55340232221128654855), (nat_lit 24, nat_lit 55340232221128654854, nat_lit 55340232221128654855, nat_lit 55340232221128654856), (nat_lit 30, nat_lit 55340232221128654851, nat_lit 32, nat_lit 55340232221128654857), (nat_lit 23, nat_lit 55340232221128654852, nat_lit 36893488151714070527, nat_lit 55340232221128654858), (nat_lit 24, nat_lit 55340232221128654857, nat_lit 55340232221128654858, nat_lit 55340232221128654859), (nat_lit 1, nat_lit 18446744073709551617, nat_lit 10, nat_lit 18446744073709551628)]
theorem zOp_yn {E : zE} {zn : List Cond} {MI : zMI} {N : Nat} {own yn yn2 : String} {cc : ByteArray} {nL : Nat} {ret : Option FieldType} {pc o a b nx : Nat} (ho : o ≠ 13) (h : zOpOK E zn MI N own yn cc nL ret pc o a b nx) : zOpOK E zn MI N own yn2 cc nL ret pc o a b nx := by
  match o, ho, h with
  | 0, ho, h => exact h
  | 1, ho, h => exact h
  | 2, ho, h => exact h
  | 3, ho, h => exact h
  | 4, ho, h => exact h
  | 5, ho, h => exact h
  | 6, ho, h => exact h
  | 7, ho, h => exact h
  | 8, ho, h => exact h
  | 9, ho, h => exact h
  | 10, ho, h => exact h
  | 11, ho, h => exact h
  | 12, ho, h => exact h
  | 13, ho, h => exact absurd rfl ho
  | 14, ho, h => exact h
  | 15, ho, h => exact h
  | 16, ho, h => exact h
  | 17, ho, h => exact h
  | 18, ho, h => exact h
  | 19, ho, h => exact h
  | 20, ho, h => exact h
  | 21, ho, h => exact h
  | 22, ho, h => exact h
  | 23, ho, h => exact h
  | 24, ho, h => exact h
  | 25, ho, h => exact h
  | 26, ho, h => exact h
  | 27, ho, h => exact h
  | 28, ho, h => exact h
  | 29, ho, h => exact h
  | 30, ho, h => exact h
  | 31, ho, h => exact h
  | 32, ho, h => exact h
  | 33, ho, h => exact h
  | 34, ho, h => exact h
  | k + 35, ho, h => exact trivial
/-- the check of some places of a code alone -/
noncomputable def zkCp (E : zE) (rr : Nat → zR) (N : Nat) (own yn : String) (cc : ByteArray) (nL : Nat) (ret : Option FieldType) (n lo code : Nat) : Bool :=
  zkA (fun pc x => zkO E rr N own yn cc nL ret pc (x % 256) (x >>> 88) ((x >>> 32) % 4294967296) ((x >>> 8) % 16777216) ((x >>> 64) % 16777216)) n lo (Nat.mod (Nat.shiftRight code (Nat.mul 160 lo)) (Nat.shiftLeft 1 (Nat.mul 160 n)))
theorem zfet_cut (code n lo q : Nat) (hq : q < n) : zfet (Nat.mod (Nat.shiftRight code (Nat.mul 160 lo)) (Nat.shiftLeft 1 (Nat.mul 160 n))) q = zfet code (lo + q) := by
  unfold zfet
  simp only [zshr, zmul, zmod, zshl]
  rw [Nat.shiftLeft_eq, Nat.one_mul]
  apply Nat.eq_of_testBit_eq
  intro b
  have e : (1461501637330902918203684832716283019655932542976 : Nat) = 2 ^ 160 := by decide
  rw [e, Nat.testBit_mod_two_pow, Nat.testBit_mod_two_pow, Nat.testBit_shiftRight, Nat.testBit_shiftRight, Nat.testBit_mod_two_pow, Nat.testBit_shiftRight]
  by_cases hb : b < 160
  · have h1 : 160 * q + b < 160 * n := by omega
    have h2 : 160 * lo + (160 * q + b) = 160 * (lo + q) + b := by omega
    simp only [hb, h1, decide_true, Bool.true_and, h2]
  · simp only [hb, decide_false, Bool.false_and]
theorem zkCp_t {E : zE} {rr : Nat → zR} {N : Nat} {own yn : String} {cc : ByteArray} {nL : Nat} {ret : Option FieldType} {n lo code : Nat} (hr : ∀ a, a < N → zkR (rr a) = true) (h : zkCp E rr N own yn cc nL ret n lo code = true) (pc : Nat) (h1 : lo ≤ pc) (h2 : pc < lo + n) : zPcOK E znl (fun a => (rr a).1) N own yn cc nL ret pc (zfet code pc) := by
  have := zkA_t (P := fun pc x => zPcOK E znl (fun a => (rr a).1) N own yn cc nL ret pc x) (fun q => trivial) (fun q x hx => zkO_t hr hx) n lo _ h (pc - lo)
  rw [zfet_cut _ _ _ _ (by omega), show lo + (pc - lo) = pc by omega] at this
  exact this
theorem zfet_hi {code m : Nat} (h : Nat.beq (Nat.shiftRight code m) 0 = true) (pc : Nat) (hp : m ≤ 160 * pc) : zfet code pc = 0 := by
  have h := zbeq_t h
  unfold zfet
  rw [zshr] at h
  rw [zshr, zmul, zmod, show 160 * pc = m + (160 * pc - m) by omega, Nat.shiftRight_add, h, Nat.zero_shiftRight, Nat.zero_mod]
theorem zlw_p0 : zkCp zEe zrr 259 R_law "law" code 4 ret 120 0 zc0 = true := by decide +kernel
theorem zlw_p1 : zkCp zEe zrr 259 R_law "law" code 4 ret 120 120 zc0 = true := by decide +kernel
theorem zlw_p2 : zkCp zEe zrr 259 R_law "law" code 4 ret 120 240 zc0 = true := by decide +kernel
theorem zlw_p3 : zkCp zEe zrr 259 R_law "law" code 4 ret 120 360 zc0 = true := by decide +kernel
theorem zlw_p4 : zkCp zEe zrr 259 R_law "law" code 4 ret 120 480 zc0 = true := by decide +kernel
theorem zlw_p5 : zkCp zEe zrr 259 R_law "law" code 4 ret 120 600 zc0 = true := by decide +kernel
theorem zlw_p6 : zkCp zEe zrr 259 R_law "law" code 4 ret 120 720 zc0 = true := by decide +kernel
theorem zlw_p7 : zkCp zEe zrr 259 R_law "law" code 4 ret 120 840 zc0 = true := by decide +kernel
theorem zlw_p8 : zkCp zEe zrr 259 R_law "law" code 4 ret 120 960 zc0 = true := by decide +kernel
theorem zlw_p9 : zkCp zEe zrr 259 R_law "law" code 4 ret 120 1080 zc0 = true := by decide +kernel
theorem zlw_p10 : zkCp zEe zrr 259 R_law "law" code 4 ret 120 1200 zc0 = true := by decide +kernel
theorem zlw_p11 : zkCp zEe zrr 259 R_law "law" code 4 ret 120 1320 zc0 = true := by decide +kernel
theorem zlw_p12 : zkCp zEe zrr 259 R_law "law" code 4 ret 120 1440 zc0 = true := by decide +kernel
theorem zlw_p13 : zkCp zEe zrr 259 R_law "law" code 4 ret 120 1560 zc0 = true := by decide +kernel
theorem zlw_z : Nat.beq (Nat.shiftRight zc0 268800) 0 = true := by decide +kernel
theorem zlw_code (pc : Nat) : zPcOK zEe znl (fun a => (zrr a).1) 259 R_law "law" code 4 ret pc (zfet zc0 pc) := by
  rcases Nat.lt_or_ge pc 120 with h0 | h0
  · exact zkCp_t zkr zlw_p0 pc (by omega) (by omega)
  rcases Nat.lt_or_ge pc 240 with h1 | h1
  · exact zkCp_t zkr zlw_p1 pc (by omega) (by omega)
  rcases Nat.lt_or_ge pc 360 with h2 | h2
  · exact zkCp_t zkr zlw_p2 pc (by omega) (by omega)
  rcases Nat.lt_or_ge pc 480 with h3 | h3
  · exact zkCp_t zkr zlw_p3 pc (by omega) (by omega)
  rcases Nat.lt_or_ge pc 600 with h4 | h4
  · exact zkCp_t zkr zlw_p4 pc (by omega) (by omega)
  rcases Nat.lt_or_ge pc 720 with h5 | h5
  · exact zkCp_t zkr zlw_p5 pc (by omega) (by omega)
  rcases Nat.lt_or_ge pc 840 with h6 | h6
  · exact zkCp_t zkr zlw_p6 pc (by omega) (by omega)
  rcases Nat.lt_or_ge pc 960 with h7 | h7
  · exact zkCp_t zkr zlw_p7 pc (by omega) (by omega)
  rcases Nat.lt_or_ge pc 1080 with h8 | h8
  · exact zkCp_t zkr zlw_p8 pc (by omega) (by omega)
  rcases Nat.lt_or_ge pc 1200 with h9 | h9
  · exact zkCp_t zkr zlw_p9 pc (by omega) (by omega)
  rcases Nat.lt_or_ge pc 1320 with h10 | h10
  · exact zkCp_t zkr zlw_p10 pc (by omega) (by omega)
  rcases Nat.lt_or_ge pc 1440 with h11 | h11
  · exact zkCp_t zkr zlw_p11 pc (by omega) (by omega)
  rcases Nat.lt_or_ge pc 1560 with h12 | h12
  · exact zkCp_t zkr zlw_p12 pc (by omega) (by omega)
  rcases Nat.lt_or_ge pc 1680 with h13 | h13
  · exact zkCp_t zkr zlw_p13 pc (by omega) (by omega)
  · rw [zfet_hi zlw_z pc (by omega)]; exact trivial
theorem zlw_no13 : zkA (fun _ x => decide (x % 256 ≠ 13)) code.size 0 zc0 = true := by decide +kernel
theorem zlw_pc (yn : String) (pc : Nat) : zPcOK zEe znl (fun a => (zrr a).1) 259 R_law yn code 4 ret pc (zfet zc0 pc) := by
  have h1 := zlw_code pc
  have h2 := zkA_t (P := fun _ x => x % 256 ≠ 13) (fun _ => by decide) (fun _ _ h => zde h) code.size 0 zc0 zlw_no13 pc
  exact zOp_yn h2 h1
theorem zlw_ao8 : Cond.arrayOver (.object RX8) ∈ lw_tbl := zmj_t (q := (0, 32)) (by decide +kernel)
theorem zlw_ao3 : Cond.arrayOver (.object RX3) ∈ lw_tbl := zmj_t (q := (1, 128)) (by decide +kernel)
theorem znw_b : (List.range 13).all (fun a => zmb (znwp.getD a ((0, 0), (0, 0))).1 (.instantiable (zcl a).1 (zcl a).2.2.1)) = true := by decide +kernel
theorem znw_t {a : Nat} (h : a < 13) : Cond.instantiable (zcl a).1 (zcl a).2.2.1 ∈ zGW := zmb_t (List.all_eq_true.mp znw_b a (List.mem_range.mpr h))
theorem zlw_known {s : State} {A : Array Value} (hts : ∀ w ∈ lw_tbl, w.before A s = true) : ∃ D : va_G, ∀ (k : Nat) (q : vw_C), vwCl[k]? = some q → u_Kn s q.1 q.2.1 q.2.2 (D.1 k) (D.2 k) := by
  have h : ∀ k, ∃ q : ClassId × (Nat → Nat), k < 13 → u_Kn s (zcl k).1 (zcl k).2.1 (zcl k).2.2.1 q.1 q.2 := by
    intro k
    by_cases hk : k < 13
    · obtain ⟨h1, h2, -, -⟩ := zcl_t k hk
      obtain ⟨cC, iS, h3⟩ := u_known (C := (zcl k).1) (T := (zcl k).2.1) (N := (zcl k).2.2.1) hts (fun w hw => (zGW_good (h2 w hw)).1) (hts _ (zGW_good (znw_t hk)).1)
      exact ⟨(cC, iS), fun _ => h3⟩
    · exact ⟨(0, fun _ => 0), fun q => absurd q hk⟩
  refine ⟨(fun k => (Classical.choose (h k)).1, fun k => (Classical.choose (h k)).2), fun k q hq => ?_⟩
  have hk : k < 13 := by
    obtain ⟨hlt, -⟩ := List.getElem?_eq_some_iff.mp hq
    exact hlt
  obtain ⟨h1, -⟩ := zcl_t k hk
  rw [h1] at hq
  have e := Option.some.inj hq
  rw [← e]
  exact Classical.choose_spec (h k) hk
theorem zH0_a : ∀ L, L < 6 → ∀ q, q < 128 → 1 ≤ q → (hget (zH0 L) q).1 = 99 := by decide +kernel
theorem zH0_b : ∀ L, L < 6 → ∀ q, q < 128 → (hget (zH0 L) q).2.1 ≤ 60000 := by decide +kernel
theorem zH0_c : ∀ L, L < 6 → ∀ j, j < L → Nat.xor (bget (zscr L) j) (zdv 100) = 18446744073709551616 + j := by decide +kernel
theorem zH0_d : ∀ L, L < 6 → (zH0 L).length = 16 ∧ ∀ r ∈ zH0 L, r.length = 8 := by decide +kernel
theorem zH0_e : ∀ L, L < 6 → hget (zH0 L) 0 = (100, L, zscr L) := by decide +kernel
theorem zH0_f (L : Nat) {q : Nat} (h : 128 ≤ q) : hget (zH0 L) q = (99, 0, 0) := by
  rw [hget_eq, List.getD_eq_getElem?_getD (l := zH0 L), List.getElem?_eq_none (by show 16 ≤ q / 8; omega)]
  rfl
theorem zlw_hr {D : va_G} {ρ : Nat → Int} {b L : Nat} {xs : Nat → Int32} {s : State} (hD : ∀ (k : Nat) (q : vw_C), vwCl[k]? = some q → u_Kn s q.1 q.2.1 q.2.2 (D.1 k) (D.2 k)) (hL : L ≤ 5) (hX : va_X b L xs s s.heap) (hbl : b < s.heap.size) (hρ : ∀ j, j < 5 → ρ j = (xs j).toInt) : zHR D ρ b s.heap.size s s.heap (zH0 L) 1 := by
  have hL6 : L < 6 := by omega
  refine ⟨[], [], ⟨hD, fun k q h => by simp at h⟩, fun k q h => by simp at h, ⟨fun i j p q h => by simp at h, fun k q h => by simp at h⟩, rfl, fun k q h => by simp at h, rfl, ?_, zH0_d L hL6, by decide, fun q hq => ?_, fun q => ?_⟩
  · rw [zH0_e L hL6]
    refine ⟨rfl, hbl, xs, hX, fun j hj => ?_⟩
    have hj : j < L := hj
    unfold zae
    have e : Nat.xor (bget (100, L, zscr L).2.2 j) (zdv (100, L, zscr L).1) = 18446744073709551616 + j := zH0_c L hL6 j hj
    rw [e, zv_i (by rw [zkd_eq]; omega)]
    unfold zvi
    rw [if_neg (by omega), Nat.add_sub_cancel_left, hρ j (by omega), Int32.ofInt_toInt]
  · rcases Nat.lt_or_ge q 128 with h | h
    · exact zH0_a L hL6 q h hq
    · rw [zH0_f L h]
  · rcases Nat.lt_or_ge q 128 with h | h
    · exact zH0_b L hL6 q h
    · rw [zH0_f L h]; exact Nat.zero_le _
theorem zL0_a : ∀ i, i < 4 → zkd (bget zL0 i) ≤ 2 → i = 0 := by decide +kernel
theorem zL0_b : bget zL0 0 = 73786976294838206464 := by decide +kernel
theorem zlaw_gen {p : Program} {e : Env} {s : State} {m : MethodId} {below : List Frame} {meth : Method} {c : Code} (l : Launch) {b L : Nat} {xs : Nat → Int32} (hL : L ≤ 5) (C0 : lw_At p s m meth c b L xs) {ρ : Nat → Int} (hρ : ∀ j, j < 5 → ρ j = (xs j).toInt)
    {Df : zD} (hDf : zdOK ρ Df) {om : Nat → Bool} {oc : zCal} {F F2 k d : Nat} (hd : k + d ≤ 400) (hoc : zoc l ρ k om oc) {S : zS} (hS : zsat ρ S)
    (hg : zgood (fun o => o.1 = 1 ∧ o.2.1 = 1) (zloop (zHs zEe Df (zrun zEe Df om oc znz F d) (znz 0)) zc0 F2 0 zL0 [] (S, zH0 L, 1, 600000, 7302250))) :
    W p l e room_1 s m #[Value.ref b] below meth c s.heap [] 0 0 (lw_Z below #[Value.ref b] s) (entryFrame m ([Value.ref b] : List Value).toArray 4) := by
  obtain ⟨hx, hb, hr, hml, hown, hts, hX, hbl, hlocks, hgv⟩ := id C0
  have hw : ∀ w ∈ zGW, w.before #[Value.ref b] s = true := fun w h => hts w (zGW_good h).1
  obtain ⟨D, hD⟩ := zlw_known hts
  have hh := zlw_hr hD hL hX hbl hρ
  have hZ : zZ znl s := by
    refine ⟨fun w hw => ?_, va_AO.of (hts _ zlw_ao8), va_AO.of (hts _ zlw_ao3)⟩
    have h1 := hts w (zmjs_t _ _ zlw_nests w hw)
    obtain ⟨a, i, x, h, rfl⟩ := zlw_nst w hw
    exact va_Nw.of rfl h1
  have hret : zRetOK p l e room_1 s m #[Value.ref b] below meth c (lw_Z below #[Value.ref b] s) code ret D ρ b s.heap.size 600000 7302250 (fun o => o.1 = 1 ∧ o.2.1 = 1) := by
    intro o H locs cells slots pc ls hP hs1 hh1 hS1 hc1 hc2 hz
    rw [hP.2] at hz ⊢
    have ez : zrv ρ (zα b s.heap.size) 1 = some (.int 1) := by
      unfold zrv
      rw [if_neg (by decide), zv_i (by decide)]
      unfold zvi
      rw [if_pos (by decide)]
      rfl
    rw [ez]
    rcases hz with ⟨hv, -, -⟩ | ⟨hv, hdc, hre⟩ | ⟨hv, -, -⟩ | ⟨hv, -, -⟩
    · exact absurd hv (by decide)
    · refine va_forget (fun q hq => hS1.2.2 q hq) (W.widen hc1 hc2 ?_)
      exact lw_ret hx hb hr hlocks hdc
    · exact absurd hv (by decide)
    · exact absurd hv (by decide)
  have main := zloop_ok (nL := 4) (R := room_1) (mc := 600000) (ms := 7302250) (P := fun o => o.1 = 1 ∧ o.2.1 = 1) (E := zEe) (MI := fun a => (zrr a).1) (N := 259) (Df := Df) (cal := zrun zEe Df om oc znz F d) (oz := znz 0) (code := zc0) (d := k + d)
    hx hb hml (fun o q => q.1) hown rfl hw zlw_nst hZ ⟨by show k + d + 1 ≤ 2048; omega, by show 200 * (k + d + 1) ≤ 84000; omega, Nat.le_refl _, Nat.le_refl _⟩ hret hDf (fun pc L st M hz => (zgood_no (fun o q => q.1) hz).elim)
    (fun a S as h len g0 g1 g2 g3 => zmetk l hDf hoc d a S as h len g0 g1 g2 g3 D b s.heap.size) (zlw_pc meth.name) F2
  rw [lg_entry_eq]
  have hle := lv_entry ([.ref b] : List Value) (n := 4) (Nat.le_of_ble_eq_true rfl)
  refine main 0 zL0 [] _ hg s.heap [] 0 0 _ ⟨hS, hh, va_S.rf, Nat.zero_add _, Nat.zero_add _⟩ (zhas_sub hle fun q hq => ?_)
  obtain ⟨q1, q2, q3⟩ := zLs_mem.mp hq
  have e0 := zL0_a q.1 q1 q2
  have e1 : q = (0, Value.ref b) := by
    refine Prod.ext e0 ?_
    rw [q3, e0, zL0_b, zv_ref (by decide) (by decide)]
    rfl
  rw [e1]
  exact List.mem_cons_self
