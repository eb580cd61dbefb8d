/-! The check of a place of a method's code, by program; what it gives -/
def zTj (j : Nat) : List Cond := match j with
  | 0 => tables_1_1
  | 1 => tables_1_2
  | 2 => tables_1_3
  | 3 => tables_1_4
  | 4 => tables_1_5
  | 5 => tables_1_6
  | 6 => tables_1_7
  | _ => k2_sels lw_privs
def zmb (q : Nat × Nat) (w : Cond) : Bool := decide ((zTj q.1)[q.2]? = some w) && goodWord w
theorem zTj_in {j : Nat} {w : Cond} (h : w ∈ zTj j) : w ∈ lw_tbl := by
  have up : w ∈ tables_1 → w ∈ lw_tbl := fun h => List.mem_append_right _ h
  unfold tables_1 at up
  match j, h with
  | 0, h => exact up (List.mem_append_left _ h)
  | 1, h => exact up (List.mem_append_right _ (List.mem_append_left _ h))
  | 2, h => exact up (List.mem_append_right _ (List.mem_append_right _ (List.mem_append_left _ h)))
  | 3, h => exact up (List.mem_append_right _ (List.mem_append_right _ (List.mem_append_right _ (List.mem_append_left _ h))))
  | 4, h => exact up (List.mem_append_right _ (List.mem_append_right _ (List.mem_append_right _ (List.mem_append_right _ (List.mem_append_left _ h)))))
  | 5, h => exact up (List.mem_append_right _ (List.mem_append_right _ (List.mem_append_right _ (List.mem_append_right _ (List.mem_append_right _ (List.mem_append_left _ h))))))
  | 6, h => exact up (List.mem_append_right _ (List.mem_append_right _ (List.mem_append_right _ (List.mem_append_right _ (List.mem_append_right _ (List.mem_append_right _ h))))))
  | n + 7, h => exact List.mem_append_left _ h
theorem zmb_t {q : Nat × Nat} {w : Cond} (h : zmb q w = true) : w ∈ zGW := by
  unfold zmb at h
  rw [Bool.and_eq_true, decide_eq_true_eq] at h
  exact List.mem_filter.mpr ⟨zTj_in (List.mem_of_getElem? h.1), h.2⟩
def zdc (cc : ByteArray) (pc : Nat) (i : Instr) (n : Nat) : Bool := decide (decode cc pc = .ok (i, n))
theorem zdc_t {cc : ByteArray} {pc : Nat} {i : Instr} {n : Nat} (h : zdc cc pc i n = true) : decode cc pc = .ok (i, n) := of_decide_eq_true h
/-- a chain of checks -/
theorem zan {a b : Bool} (h : (a && b) = true) : a = true ∧ b = true := by rwa [Bool.and_eq_true] at h
theorem zde {q : Prop} [Decidable q] (h : decide q = true) : q := of_decide_eq_true h
theorem zif {a : Prop} [Decidable a] {b c : Bool} (h : (if a then b else c) = true) : (a ∧ b = true) ∨ (¬ a ∧ c = true) := by
  by_cases g : a
  · rw [if_pos g] at h; exact Or.inl ⟨g, h⟩
  · rw [if_neg g] at h; exact Or.inr ⟨g, h⟩
def zf4 (a : Nat) (f : Fin 4 → Bool) : Bool := if h : a < 4 then f ⟨a, h⟩ else false
theorem zf4_t {a : Nat} {f : Fin 4 → Bool} (h : zf4 a f = true) : ∃ k : Fin 4, (k : Nat) = a ∧ f k = true := by
  unfold zf4 at h
  by_cases g : a < 4
  · rw [dif_pos g] at h; exact ⟨⟨a, g⟩, rfl, h⟩
  · rw [dif_neg g] at h; cases h
def zk_load (cc : ByteArray) (nL pc a b nx x : Nat) : Bool := decide (a < nL) &&
  (if b = 0 then (if x = 0 then zf4 a fun k => zdc cc pc (.iload_n k) 1 && decide (nx = pc + 1) else zdc cc pc (.iload a) 2 && decide (nx = pc + 2)) else
   if b = 1 then (if x = 0 then zf4 a fun k => zdc cc pc (.lload_n k) 1 && decide (nx = pc + 1) else zdc cc pc (.lload a) 2 && decide (nx = pc + 2)) else
   if b = 2 then (if x = 0 then zf4 a fun k => zdc cc pc (.aload_n k) 1 && decide (nx = pc + 1) else zdc cc pc (.aload a) 2 && decide (nx = pc + 2)) else false)
theorem zk_load_t {cc : ByteArray} {nL pc a b nx x : Nat} (h : zk_load cc nL pc a b nx x = true) : zd_load cc nL pc a b nx := by
  obtain ⟨h1, h⟩ := zan h
  refine ⟨zde h1, ?_⟩
  rcases zif h with ⟨hb, h⟩ | ⟨-, h⟩
  · left
    refine ⟨hb, ?_⟩
    rcases zif h with ⟨-, h⟩ | ⟨-, h⟩
    · obtain ⟨k, hk, h⟩ := zf4_t h
      obtain ⟨h2, h3⟩ := zan h
      exact Or.inl ⟨k, hk, zdc_t h2, zde h3⟩
    · obtain ⟨h2, h3⟩ := zan h
      exact Or.inr ⟨zdc_t h2, zde h3⟩
  · rcases zif h with ⟨hb, h⟩ | ⟨-, h⟩
    · right; left
      refine ⟨hb, ?_⟩
      rcases zif h with ⟨-, h⟩ | ⟨-, h⟩
      · obtain ⟨k, hk, h⟩ := zf4_t h
        obtain ⟨h2, h3⟩ := zan h
        exact Or.inl ⟨k, hk, zdc_t h2, zde h3⟩
      · obtain ⟨h2, h3⟩ := zan h
        exact Or.inr ⟨zdc_t h2, zde h3⟩
    · rcases zif h with ⟨hb, h⟩ | ⟨-, h⟩
      · right; right
        refine ⟨hb, ?_⟩
        rcases zif h with ⟨-, h⟩ | ⟨-, h⟩
        · obtain ⟨k, hk, h⟩ := zf4_t h
          obtain ⟨h2, h3⟩ := zan h
          exact Or.inl ⟨k, hk, zdc_t h2, zde h3⟩
        · obtain ⟨h2, h3⟩ := zan h
          exact Or.inr ⟨zdc_t h2, zde h3⟩
      · cases h
def zk_store (cc : ByteArray) (nL pc a b nx x : Nat) : Bool := decide (a < nL) &&
  (if b = 0 then (if x = 0 then zf4 a fun k => zdc cc pc (.istore_n k) 1 && decide (nx = pc + 1) else zdc cc pc (.istore a) 2 && decide (nx = pc + 2)) else
   if b = 2 then (if x = 0 then zf4 a fun k => zdc cc pc (.astore_n k) 1 && decide (nx = pc + 1) else zdc cc pc (.astore a) 2 && decide (nx = pc + 2)) else false)
theorem zk_store_t {cc : ByteArray} {nL pc a b nx x : Nat} (h : zk_store cc nL pc a b nx x = true) : zd_store cc nL pc a b nx := by
  obtain ⟨h1, h⟩ := zan h
  refine ⟨zde h1, ?_⟩
  rcases zif h with ⟨hb, h⟩ | ⟨-, h⟩
  · left
    refine ⟨hb, ?_⟩
    rcases zif h with ⟨-, h⟩ | ⟨-, h⟩
    · obtain ⟨k, hk, h⟩ := zf4_t h
      obtain ⟨h2, h3⟩ := zan h
      exact Or.inl ⟨k, hk, zdc_t h2, zde h3⟩
    · obtain ⟨h2, h3⟩ := zan h
      exact Or.inr ⟨zdc_t h2, zde h3⟩
  · rcases zif h with ⟨hb, h⟩ | ⟨-, h⟩
    · right
      refine ⟨hb, ?_⟩
      rcases zif h with ⟨-, h⟩ | ⟨-, h⟩
      · obtain ⟨k, hk, h⟩ := zf4_t h
        obtain ⟨h2, h3⟩ := zan h
        exact Or.inl ⟨k, hk, zdc_t h2, zde h3⟩
      · obtain ⟨h2, h3⟩ := zan h
        exact Or.inr ⟨zdc_t h2, zde h3⟩
    · cases h
def zk_lstore (cc : ByteArray) (nL pc a nx x : Nat) : Bool := decide (a + 1 < nL) && (if x = 0 then zf4 a fun k => zdc cc pc (.lstore_n k) 1 && decide (nx = pc + 1) else zdc cc pc (.lstore a) 2 && decide (nx = pc + 2))
theorem zk_lstore_t {cc : ByteArray} {nL pc a nx x : Nat} (h : zk_lstore cc nL pc a nx x = true) : zd_lstore cc nL pc a nx := by
  obtain ⟨h1, h⟩ := zan h
  refine ⟨zde h1, ?_⟩
  rcases zif h with ⟨-, h⟩ | ⟨-, h⟩
  · obtain ⟨k, hk, h⟩ := zf4_t h
    obtain ⟨h2, h3⟩ := zan h
    exact Or.inl ⟨k, hk, zdc_t h2, zde h3⟩
  · obtain ⟨h2, h3⟩ := zan h
    exact Or.inr ⟨zdc_t h2, zde h3⟩
/-- a signed number of 32 bits -/
def zsg (a : Nat) : Int := if a < 2147483648 then (a : Int) else (a : Int) - 4294967296
def zk_iinc (cc : ByteArray) (nL pc a b nx : Nat) : Bool := decide (a < nL) && (decide (nx = pc + 3) && (zdc cc pc (.iinc a (zsg b)) 3 && decide (Int32.ofInt (zsg b) = Int32.ofNat b)))
theorem zk_iinc_t {cc : ByteArray} {nL pc a b nx : Nat} (h : zk_iinc cc nL pc a b nx = true) : zd_iinc cc nL pc a b nx := by
  obtain ⟨h1, h⟩ := zan h
  obtain ⟨h2, h⟩ := zan h
  obtain ⟨h3, h⟩ := zan h
  exact ⟨zde h1, zde h2, _, zdc_t h3, zde h⟩
def zk_push (cc : ByteArray) (own : String) (kp : Nat × Nat) (pc a b nx x : Nat) : Bool :=
  if x = 0 then decide (a ≤ 4294967295) && (decide (nx = pc + 1) && (zdc cc pc (.iconst (zsg a)) 1 && decide (Int32.ofInt (zsg a) = Int32.ofNat a))) else
  if x = 1 then decide (a ≤ 4294967295) && (decide (nx = pc + 2) && (zdc cc pc (.bipush (zsg a)) 2 && decide ((Int8.ofInt (zsg a)).toInt32 = Int32.ofNat a))) else
  if x = 2 then decide (a ≤ 4294967295) && (decide (nx = pc + 3) && (zdc cc pc (.sipush (zsg a)) 3 && decide ((Int16.ofInt (zsg a)).toInt32 = Int32.ofNat a))) else
  if x = 3 then decide (a ≤ 4294967295) && (decide (nx = pc + 2) && (zdc cc pc (.ldc b) 2 && zmb kp (.constant own b (Int32.ofNat a)))) else
  if x = 4 then decide (a ≤ 4294967295) && (decide (nx = pc + 3) && (zdc cc pc (.ldc_w b) 3 && zmb kp (.constant own b (Int32.ofNat a)))) else
  if x = 5 then decide (36893488147419103232 ≤ a) && (decide (a < 55340232221128654848) && (decide (nx = pc + 3) && (zdc cc pc (.ldc2_w b) 3 && zmb kp (.constantLong own b (Int64.ofNat (a - 36893488147419103232)))))) else
  if x = 6 then decide (nx = pc + 1) && ((decide (a = 36893488147419103232) && zdc cc pc (.lconst 0) 1) || (decide (a = 36893488147419103233) && zdc cc pc (.lconst 1) 1)) else
  decide (a = 92233720368547758080) && (decide (nx = pc + 1) && zdc cc pc .aconst_null 1)
theorem zk_push_t {cc : ByteArray} {own : String} {kp : Nat × Nat} {pc a b nx x : Nat} (h : zk_push cc own kp pc a b nx x = true) : zd_push cc own pc a nx := by
  unfold zd_push
  rcases zif h with ⟨-, h⟩ | ⟨-, h⟩
  · obtain ⟨h1, h⟩ := zan h
    obtain ⟨h2, h⟩ := zan h
    obtain ⟨h3, h⟩ := zan h
    exact Or.inl ⟨_, zde h1, zde h2, zdc_t h3, zde h⟩
  rcases zif h with ⟨-, h⟩ | ⟨-, h⟩
  · obtain ⟨h1, h⟩ := zan h
    obtain ⟨h2, h⟩ := zan h
    obtain ⟨h3, h⟩ := zan h
    exact Or.inr (Or.inl ⟨_, zde h1, zde h2, zdc_t h3, zde h⟩)
  rcases zif h with ⟨-, h⟩ | ⟨-, h⟩
  · obtain ⟨h1, h⟩ := zan h
    obtain ⟨h2, h⟩ := zan h
    obtain ⟨h3, h⟩ := zan h
    exact Or.inr (Or.inr (Or.inl ⟨_, zde h1, zde h2, zdc_t h3, zde h⟩))
  rcases zif h with ⟨-, h⟩ | ⟨-, h⟩
  · obtain ⟨h1, h⟩ := zan h
    obtain ⟨h2, h⟩ := zan h
    obtain ⟨h3, h⟩ := zan h
    exact Or.inr (Or.inr (Or.inr (Or.inl ⟨_, zde h1, zde h2, zdc_t h3, zmb_t h⟩)))
  rcases zif h with ⟨-, h⟩ | ⟨-, h⟩
  · obtain ⟨h1, h⟩ := zan h
    obtain ⟨h2, h⟩ := zan h
    obtain ⟨h3, h⟩ := zan h
    exact Or.inr (Or.inr (Or.inr (Or.inr (Or.inl ⟨_, zde h1, zde h2, zdc_t h3, zmb_t h⟩))))
  rcases zif h with ⟨-, h⟩ | ⟨-, h⟩
  · obtain ⟨h0, h⟩ := zan h
    obtain ⟨h1, h⟩ := zan h
    obtain ⟨h2, h⟩ := zan h
    obtain ⟨h3, h⟩ := zan h
    have h0 := zde h0
    have h1 := zde h1
    exact Or.inr (Or.inr (Or.inr (Or.inr (Or.inr (Or.inl ⟨_, a - 36893488147419103232, by omega, by omega, zde h2, zdc_t h3, zmb_t h⟩)))))
  rcases zif h with ⟨-, h⟩ | ⟨-, h⟩
  · obtain ⟨h2, h⟩ := zan h
    rw [Bool.or_eq_true] at h
    rcases h with h | h
    · obtain ⟨h1, h⟩ := zan h
      exact Or.inr (Or.inr (Or.inr (Or.inr (Or.inr (Or.inr (Or.inl ⟨0, zde h1, zde h2, zdc_t h⟩))))))
    · obtain ⟨h1, h⟩ := zan h
      exact Or.inr (Or.inr (Or.inr (Or.inr (Or.inr (Or.inr (Or.inl ⟨1, zde h1, zde h2, zdc_t h⟩))))))
  · obtain ⟨h1, h⟩ := zan h
    obtain ⟨h2, h⟩ := zan h
    exact Or.inr (Or.inr (Or.inr (Or.inr (Or.inr (Or.inr (Or.inr ⟨zde h1, zde h2, zdc_t h⟩))))))
/-- one of a few instructions -/
def zk1 (cc : ByteArray) (pc a nx n : Nat) (l : List (Nat × Instr)) : Bool := decide (nx = pc + n) && l.any fun q => decide (a = q.1) && zdc cc pc q.2 n
theorem zk1_t {cc : ByteArray} {pc a nx n : Nat} {l : List (Nat × Instr)} (h : zk1 cc pc a nx n l = true) : nx = pc + n ∧ ∃ q ∈ l, a = q.1 ∧ decode cc pc = .ok (q.2, n) := by
  obtain ⟨h1, h⟩ := zan h
  obtain ⟨q, hq, h⟩ := List.any_eq_true.mp h
  obtain ⟨h2, h3⟩ := zan h
  exact ⟨zde h1, q, hq, zde h2, zdc_t h3⟩
def zk_ib (cc : ByteArray) (pc w nx : Nat) : Bool := zk1 cc pc w nx 1 [(0, .iadd), (1, .isub), (2, .imul), (3, .iand), (4, .ior), (6, .ishl), (9, .idiv), (10, .irem)]
theorem zk_ib_t {cc : ByteArray} {pc w nx : Nat} (h : zk_ib cc pc w nx = true) : zd_ib cc pc w nx := by
  obtain ⟨h1, q, hq, h2, h3⟩ := zk1_t h
  refine ⟨h1, ?_⟩
  simp only [List.mem_cons, List.not_mem_nil, or_false] at hq
  rcases hq with rfl | rfl | rfl | rfl | rfl | rfl | rfl | rfl
  · exact Or.inl ⟨h2, h3⟩
  · exact Or.inr (Or.inl ⟨h2, h3⟩)
  · exact Or.inr (Or.inr (Or.inl ⟨h2, h3⟩))
  · exact Or.inr (Or.inr (Or.inr (Or.inl ⟨h2, h3⟩)))
  · exact Or.inr (Or.inr (Or.inr (Or.inr (Or.inl ⟨h2, h3⟩))))
  · exact Or.inr (Or.inr (Or.inr (Or.inr (Or.inr (Or.inl ⟨h2, h3⟩)))))
  · exact Or.inr (Or.inr (Or.inr (Or.inr (Or.inr (Or.inr (Or.inl ⟨h2, h3⟩))))))
  · exact Or.inr (Or.inr (Or.inr (Or.inr (Or.inr (Or.inr (Or.inr ⟨h2, h3⟩))))))
def zk_lb (cc : ByteArray) (pc w nx : Nat) : Bool := zk1 cc pc w nx 1 [(0, .ladd), (1, .lsub), (3, .land), (4, .lor)]
theorem zk_lb_t {cc : ByteArray} {pc w nx : Nat} (h : zk_lb cc pc w nx = true) : zd_lb cc pc w nx := by
  obtain ⟨h1, q, hq, h2, h3⟩ := zk1_t h
  refine ⟨h1, ?_⟩
  simp only [List.mem_cons, List.not_mem_nil, or_false] at hq
  rcases hq with rfl | rfl | rfl | rfl
  · exact Or.inl ⟨h2, h3⟩
  · exact Or.inr (Or.inl ⟨h2, h3⟩)
  · exact Or.inr (Or.inr (Or.inl ⟨h2, h3⟩))
  · exact Or.inr (Or.inr (Or.inr ⟨h2, h3⟩))
def zk_ls (cc : ByteArray) (pc w nx : Nat) : Bool := zk1 cc pc w nx 1 [(0, .lshl), (2, .lushr)]
theorem zk_ls_t {cc : ByteArray} {pc w nx : Nat} (h : zk_ls cc pc w nx = true) : zd_ls cc pc w nx := by
  obtain ⟨h1, q, hq, h2, h3⟩ := zk1_t h
  refine ⟨h1, ?_⟩
  simp only [List.mem_cons, List.not_mem_nil, or_false] at hq
  rcases hq with rfl | rfl
  · exact Or.inl ⟨h2, h3⟩
  · exact Or.inr ⟨h2, h3⟩
def zk_cv (cc : ByteArray) (pc w nx : Nat) : Bool := zk1 cc pc w nx 1 [(0, .i2l), (2, .i2b)]
theorem zk_cv_t {cc : ByteArray} {pc w nx : Nat} (h : zk_cv cc pc w nx = true) : zd_cv cc pc w nx := by
  obtain ⟨h1, q, hq, h2, h3⟩ := zk1_t h
  refine ⟨h1, ?_⟩
  simp only [List.mem_cons, List.not_mem_nil, or_false] at hq
  rcases hq with rfl | rfl
  · exact Or.inl ⟨h2, h3⟩
  · exact Or.inr ⟨h2, h3⟩
def zk_ald (cc : ByteArray) (pc a nx : Nat) : Bool := zk1 cc pc a nx 1 [(100, .iaload), (101, .laload), (102, .baload), (104, .aaload)]
theorem zk_ald_t {cc : ByteArray} {pc a nx : Nat} (h : zk_ald cc pc a nx = true) : zd_ald cc pc a nx := by
  obtain ⟨h1, q, hq, h2, h3⟩ := zk1_t h
  refine ⟨h1, ?_⟩
  simp only [List.mem_cons, List.not_mem_nil, or_false] at hq
  rcases hq with rfl | rfl | rfl | rfl
  · exact Or.inl ⟨h2, h3⟩
  · exact Or.inr (Or.inl ⟨h2, h3⟩)
  · exact Or.inr (Or.inr (Or.inl ⟨h2, h3⟩))
  · exact Or.inr (Or.inr (Or.inr ⟨h2, h3⟩))
def zk_ast (cc : ByteArray) (pc a nx : Nat) : Bool := zk1 cc pc a nx 1 [(100, .iastore), (101, .lastore), (102, .bastore), (104, .aastore)]
theorem zk_ast_t {cc : ByteArray} {pc a nx : Nat} (h : zk_ast cc pc a nx = true) : zd_ast cc pc a nx := by
  obtain ⟨h1, q, hq, h2, h3⟩ := zk1_t h
  refine ⟨h1, ?_⟩
  simp only [List.mem_cons, List.not_mem_nil, or_false] at hq
  rcases hq with rfl | rfl | rfl | rfl
  · exact Or.inl ⟨h2, h3⟩
  · exact Or.inr (Or.inl ⟨h2, h3⟩)
  · exact Or.inr (Or.inr (Or.inl ⟨h2, h3⟩))
  · exact Or.inr (Or.inr (Or.inr ⟨h2, h3⟩))
/-- a jump's way -/
def zof (pc b : Nat) : Int := (b : Int) - (pc : Int)
theorem zof_t (pc b : Nat) : (pc : Int) + zof pc b = (b : Int) := by unfold zof; omega
def zk_icmp (cc : ByteArray) (pc a b nx : Nat) : Bool := zk1 cc pc a nx 3 [(0, .if_icmp .eq (zof pc b)), (1, .if_icmp .ne (zof pc b)), (2, .if_icmp .lt (zof pc b)), (3, .if_icmp .ge (zof pc b)), (4, .if_icmp .gt (zof pc b)), (5, .if_icmp .le (zof pc b))]
theorem zk_icmp_t {cc : ByteArray} {pc a b nx : Nat} (h : zk_icmp cc pc a b nx = true) : nx = pc + 3 ∧ ∃ off : Int, zd_icmp cc pc a off ∧ (pc : Int) + off = (b : Int) := by
  obtain ⟨h1, q, hq, h2, h3⟩ := zk1_t h
  refine ⟨h1, zof pc b, ?_, zof_t pc b⟩
  simp only [List.mem_cons, List.not_mem_nil, or_false] at hq
  rcases hq with rfl | rfl | rfl | rfl | rfl | rfl
  · exact Or.inl ⟨h2, h3⟩
  · exact Or.inr (Or.inl ⟨h2, h3⟩)
  · exact Or.inr (Or.inr (Or.inl ⟨h2, h3⟩))
  · exact Or.inr (Or.inr (Or.inr (Or.inl ⟨h2, h3⟩)))
  · exact Or.inr (Or.inr (Or.inr (Or.inr (Or.inl ⟨h2, h3⟩))))
  · exact Or.inr (Or.inr (Or.inr (Or.inr (Or.inr ⟨h2, h3⟩))))
def zk_if (cc : ByteArray) (pc a b nx : Nat) : Bool := zk1 cc pc a nx 3 [(0, .ifCond .eq (zof pc b)), (1, .ifCond .ne (zof pc b)), (2, .ifCond .lt (zof pc b)), (3, .ifCond .ge (zof pc b)), (4, .ifCond .gt (zof pc b)), (5, .ifCond .le (zof pc b))]
theorem zk_if_t {cc : ByteArray} {pc a b nx : Nat} (h : zk_if cc pc a b nx = true) : nx = pc + 3 ∧ ∃ off : Int, zd_if cc pc a off ∧ (pc : Int) + off = (b : Int) := by
  obtain ⟨h1, q, hq, h2, h3⟩ := zk1_t h
  refine ⟨h1, zof pc b, ?_, zof_t pc b⟩
  simp only [List.mem_cons, List.not_mem_nil, or_false] at hq
  rcases hq with rfl | rfl | rfl | rfl | rfl | rfl
  · exact Or.inl ⟨h2, h3⟩
  · exact Or.inr (Or.inl ⟨h2, h3⟩)
  · exact Or.inr (Or.inr (Or.inl ⟨h2, h3⟩))
  · exact Or.inr (Or.inr (Or.inr (Or.inl ⟨h2, h3⟩)))
  · exact Or.inr (Or.inr (Or.inr (Or.inr (Or.inl ⟨h2, h3⟩))))
  · exact Or.inr (Or.inr (Or.inr (Or.inr (Or.inr ⟨h2, h3⟩))))
/-- classes: which, and the places of their words -/
abbrev zCr : Type := String × u_T × Nat × (Nat → FieldType)
def zcls : List zCr := [(RX0, TX0, 4, tyX0), (RX1, TX1, 7, tyX1), (RX2, TX2, 2, tyX2), (RX3, TX3, 3, tyX3), (RX4, TX4, 12, tyX4), (RX5, TX5, 6, tyX5), (RX6, TX6, 7, tyX6), (RX7, TX7, 10, tyX7), (RX8, TX8, 4, tyX8), (RX9, TX9, 2, tyX9), (RX10, TX10, 2, tyX10), (RX11, TX11, 11, tyX11), (RX12, TX12, 50, tyX12)]
def zcl (a : Nat) : zCr := zcls.getD a ("", fun _ => ("", "", "", false), 0, fun _ => .int)
/-- words at places -/
def zmbs : List (Nat × Nat) → List Cond → Bool
  | _, [] => true
  | [], _ :: _ => false
  | q :: t, w :: r => zmb q w && zmbs t r
theorem zmbs_t : ∀ (l : List (Nat × Nat)) (ws : List Cond), zmbs l ws = true → ∀ w ∈ ws, w ∈ zGW
  | _, [], _, w, hw => by cases hw
  | [], _ :: _, h, _, _ => by cases h
  | q :: t, w :: r, h, v, hv => by
    obtain ⟨h1, h2⟩ := zan h
    rcases List.mem_cons.mp hv with rfl | hv
    · exact zmb_t h1
    · exact zmbs_t t r h2 v hv
theorem zcl0 : zClOK 0 RX0 TX0 4 tyX0 := ⟨rfl, zmbs_t [(0, 157), (0, 159), (0, 161), (0, 163)] _ (by decide +kernel), tyX0_ok, nmX0⟩
theorem zcl1 : zClOK 1 RX1 TX1 7 tyX1 := ⟨rfl, zmbs_t [(0, 212), (0, 214), (0, 216), (0, 218), (0, 220), (0, 222), (0, 224)] _ (by decide +kernel), tyX1_ok, nmX1⟩
theorem zcl2 : zClOK 2 RX2 TX2 2 tyX2 := ⟨rfl, zmbs_t [(0, 126), (0, 128)] _ (by decide +kernel), tyX2_ok, nmX2⟩
theorem zcl3 : zClOK 3 RX3 TX3 3 tyX3 := ⟨rfl, zmbs_t [(0, 45), (0, 47), (0, 49)] _ (by decide +kernel), tyX3_ok, nmX3⟩
theorem zcl4 : zClOK 4 RX4 TX4 12 tyX4 := ⟨rfl, zmbs_t [(1, 142), (1, 144), (1, 146), (1, 148), (1, 150), (1, 152), (1, 154), (1, 156), (1, 158), (1, 160), (1, 162), (1, 164)] _ (by decide +kernel), tyX4_ok, nmX4⟩
theorem zcl5 : zClOK 5 RX5 TX5 6 tyX5 := ⟨rfl, zmbs_t [(0, 181), (0, 183), (0, 185), (0, 187), (0, 189), (0, 191)] _ (by decide +kernel), tyX5_ok, nmX5⟩
theorem zcl6 : zClOK 6 RX6 TX6 7 tyX6 := ⟨rfl, zmbs_t [(1, 112), (1, 114), (1, 116), (1, 118), (1, 120), (1, 122), (1, 124)] _ (by decide +kernel), tyX6_ok, nmX6⟩
theorem zcl7 : zClOK 7 RX7 TX7 10 tyX7 := ⟨rfl, zmbs_t [(0, 81), (0, 83), (0, 85), (0, 87), (0, 89), (0, 91), (0, 93), (0, 95), (0, 97), (0, 99)] _ (by decide +kernel), tyX7_ok, nmX7⟩
theorem zcl8 : zClOK 8 RX8 TX8 4 tyX8 := ⟨rfl, zmbs_t [(2, 111), (2, 113), (2, 115), (2, 117)] _ (by decide +kernel), tyX8_ok, nmX8⟩
theorem zcl9 : zClOK 9 RX9 TX9 2 tyX9 := ⟨rfl, zmbs_t [(0, 112), (0, 114)] _ (by decide +kernel), tyX9_ok, nmX9⟩
theorem zcl10 : zClOK 10 RX10 TX10 2 tyX10 := ⟨rfl, zmbs_t [(0, 140), (0, 142)] _ (by decide +kernel), tyX10_ok, nmX10⟩
theorem zcl11 : zClOK 11 RX11 TX11 11 tyX11 := ⟨rfl, zmbs_t [(0, 238), (1, 0), (1, 2), (1, 4), (1, 6), (1, 8), (1, 10), (1, 12), (1, 14), (1, 16), (1, 18)] _ (by decide +kernel), tyX11_ok, nmX11⟩
theorem zcl12 : zClOK 12 RX12 TX12 50 tyX12 := ⟨rfl, zmbs_t [(4, 175), (4, 177), (4, 179), (4, 181), (4, 183), (4, 185), (4, 187), (4, 189), (4, 191), (4, 193), (4, 195), (4, 197), (4, 199), (4, 201), (4, 203), (4, 205), (4, 207), (4, 209), (4, 211), (4, 213), (4, 215), (4, 217), (4, 219), (4, 221), (4, 223), (4, 225), (4, 227), (4, 229), (4, 231), (4, 233), (4, 235), (4, 237), (4, 239), (5, 1), (5, 3), (5, 5), (5, 7), (5, 9), (5, 11), (5, 13), (5, 15), (5, 17), (5, 19), (5, 21), (5, 23), (5, 25), (5, 27), (5, 29), (5, 31), (5, 33)] _ (by decide +kernel), tyX12_ok, nmX12⟩
theorem zcl_t : ∀ a, a < 13 → zClOK a (zcl a).1 (zcl a).2.1 (zcl a).2.2.1 (zcl a).2.2.2
  | 0, _ => zcl0
  | 1, _ => zcl1
  | 2, _ => zcl2
  | 3, _ => zcl3
  | 4, _ => zcl4
  | 5, _ => zcl5
  | 6, _ => zcl6
  | 7, _ => zcl7
  | 8, _ => zcl8
  | 9, _ => zcl9
  | 10, _ => zcl10
  | 11, _ => zcl11
  | 12, _ => zcl12
  | n + 13, h => by omega
def zpx (x : Nat) : Nat × Nat := ((x / 4096) % 8, x / 32768)
def zk_getf (cc : ByteArray) (own : String) (pc a b nx x : Nat) : Bool := decide (nx = pc + 3) && (decide (a < 13) && (zdc cc pc (.getfield (x % 4096)) 3 && (decide (b < (zcl a).2.2.1) && (decide (((zcl a).2.1 b).1 = (zcl a).1) &&
  zmb (zpx x) (.fieldLink own (x % 4096) (zcl a).1 ((zcl a).2.1 b).2.1 ((zcl a).2.1 b).2.2.1)))))
theorem zk_getf_t {cc : ByteArray} {own : String} {pc a b nx x : Nat} (h : zk_getf cc own pc a b nx x = true) : zd_getf cc own pc a b nx := by
  obtain ⟨h1, h⟩ := zan h
  obtain ⟨h2, h⟩ := zan h
  obtain ⟨h3, h⟩ := zan h
  obtain ⟨h4, h⟩ := zan h
  obtain ⟨h5, h⟩ := zan h
  exact ⟨zde h1, zde h2, _, _, _, _, _, zdc_t h3, zcl_t a (zde h2), zde h4, zde h5, zmb_t h⟩
def zkfk (t : Nat) (ty : FieldType) : Bool := match ty with
  | .int => decide (t = 0)
  | .long => decide (t = 1)
  | .object _ => decide (t = 2)
  | .array _ => decide (t = 2)
  | .boolean => decide (t = 3)
  | _ => false
theorem zkfk_t {t : Nat} {ty : FieldType} (h : zkfk t ty = true) : zfk t ty := by
  unfold zkfk at h
  unfold zfk
  split at h
  · exact Or.inl ⟨zde h, rfl⟩
  · exact Or.inr (Or.inl ⟨zde h, rfl⟩)
  · exact Or.inr (Or.inr (Or.inl ⟨zde h, Or.inl ⟨_, rfl⟩⟩))
  · exact Or.inr (Or.inr (Or.inl ⟨zde h, Or.inr ⟨_, rfl⟩⟩))
  · exact Or.inr (Or.inr (Or.inr ⟨zde h, rfl⟩))
  · cases h
def zk_putf (cc : ByteArray) (own yn : String) (pc a b nx x : Nat) : Bool := decide (nx = pc + 3) && (decide (a % 32 < 13) && (zdc cc pc (.putfield (x % 4096)) 3 && (decide (b < (zcl (a % 32)).2.2.1) && (decide (((zcl (a % 32)).2.1 b).1 = (zcl (a % 32)).1) &&
  (zmb (zpx x) (.fieldLink own (x % 4096) (zcl (a % 32)).1 ((zcl (a % 32)).2.1 b).2.1 ((zcl (a % 32)).2.1 b).2.2.1) &&
  ((!((zcl (a % 32)).2.1 b).2.2.2 || (((zcl (a % 32)).2.1 b).2.2.2 && (decide (yn = "<init>") && decide ((zcl (a % 32)).1 = own)))) && zkfk (a / 32) ((zcl (a % 32)).2.2.2 b)))))))
theorem zk_putf_t {cc : ByteArray} {own yn : String} {pc a b nx x : Nat} (h : zk_putf cc own yn pc a b nx x = true) : zd_putf cc own yn pc a b nx := by
  obtain ⟨h1, h⟩ := zan h
  obtain ⟨h2, h⟩ := zan h
  obtain ⟨h3, h⟩ := zan h
  obtain ⟨h4, h⟩ := zan h
  obtain ⟨h5, h⟩ := zan h
  obtain ⟨h6, h⟩ := zan h
  obtain ⟨h7, h8⟩ := zan h
  refine ⟨zde h1, zde h2, _, _, _, _, _, zdc_t h3, zcl_t _ (zde h2), zde h4, zde h5, zmb_t h6, ?_, zkfk_t h8⟩
  rw [Bool.or_eq_true] at h7
  rcases h7 with h7 | h7
  · left
    cases q : ((zcl (a % 32)).2.1 b).2.2.2 with
    | false => rfl
    | true => rw [q] at h7; cases h7
  · obtain ⟨g1, h7⟩ := zan h7
    obtain ⟨g2, g3⟩ := zan h7
    exact Or.inr ⟨g1, zde g2, zde g3⟩
def zk_xret (cc : ByteArray) (ret : Option FieldType) (pc a b : Nat) : Bool :=
  if a = 0 then zdc cc pc .ireturn 1 && (if b = 0 then decide (ret = some .int) else decide (ret = some .boolean)) else
  if a = 1 then zdc cc pc .lreturn 1 && decide (ret = some .long) else
  decide (a = 2) && (zdc cc pc .areturn 1 && (match ret with | some (.object _) => true | some (.array _) => true | _ => false))
theorem zk_xret_t {cc : ByteArray} {ret : Option FieldType} {pc a b : Nat} (h : zk_xret cc ret pc a b = true) : zd_xret cc ret pc a b := by
  rcases zif h with ⟨ha, h⟩ | ⟨-, h⟩
  · obtain ⟨h1, h⟩ := zan h
    refine Or.inl ⟨ha, zdc_t h1, ?_⟩
    rcases zif h with ⟨hb, h⟩ | ⟨hb, h⟩
    · exact Or.inl ⟨hb, zde h⟩
    · exact Or.inr ⟨hb, zde h⟩
  rcases zif h with ⟨ha, h⟩ | ⟨-, h⟩
  · obtain ⟨h1, h⟩ := zan h
    exact Or.inr (Or.inl ⟨ha, zdc_t h1, zde h⟩)
  obtain ⟨ha, h⟩ := zan h
  obtain ⟨h1, h⟩ := zan h
  refine Or.inr (Or.inr ⟨zde ha, zdc_t h1, ?_⟩)
  split at h
  · exact ⟨_, rfl, Or.inl ⟨_, rfl⟩⟩
  · exact ⟨_, rfl, Or.inr ⟨_, rfl⟩⟩
  · cases h
def zk_tab (cc : ByteArray) (pc : Nat) (t : Nat × List Nat × Nat) : Bool := match decode cc pc with
  | .ok (.tableswitch dflt lo hi offs, _) => decide ((t.1 : Int) = lo + 9223372036854775808) && (decide (1 ≤ t.1) && (decide (hi = lo + (offs.size : Int) - 1) && (decide ((pc : Int) + dflt = (t.2.2 : Int)) && decide (offs.toList = t.2.1.map fun (q : Nat) => ((q : Nat) : Int) - (pc : Int)))))
  | _ => false
theorem zk_tab_t {cc : ByteArray} {pc : Nat} {t : Nat × List Nat × Nat} (h : zk_tab cc pc t = true) : zd_tab cc pc t := by
  unfold zk_tab at h
  split at h
  · rename_i dflt lo hi offs len hd
    obtain ⟨h1, h⟩ := zan h
    obtain ⟨h2, h⟩ := zan h
    obtain ⟨h3, h⟩ := zan h
    obtain ⟨h4, h⟩ := zan h
    have h := zde h
    have hl : t.2.1.length = offs.size := by rw [← Array.length_toList, h, List.length_map]
    refine ⟨dflt, lo, hi, offs, len, hd, zde h1, zde h2, zde h3, zde h4, hl, fun i hi => ?_⟩
    have hi2 : i < t.2.1.length := by omega
    refine ⟨((t.2.1[i] : Nat) : Int) - (pc : Int), ?_, ?_⟩
    · rw [← Array.getElem?_toList, h, List.getElem?_map, List.getElem?_eq_getElem hi2]
      rfl
    · rw [List.getD_eq_getElem?_getD, List.getElem?_eq_getElem hi2]
      show (pc : Int) + (((t.2.1[i] : Nat) : Int) - (pc : Int)) = ((t.2.1[i] : Nat) : Int)
      omega
  · cases h
def zk_lku (cc : ByteArray) (pc : Nat) (t : List (Nat × Nat) × Nat) : Bool := match decode cc pc with
  | .ok (.lookupswitch dflt ps, _) => (ps.toList.zip (ps.toList.drop 1)).all (fun (a, next) => a.1 < next.1) && (decide ((pc : Int) + dflt = (t.2 : Int)) && decide (ps.toList = t.1.map (fun q => ((q.1 : Int) - 9223372036854775808, (q.2 : Int) - (pc : Int)))))
  | _ => false
theorem zk_lku_t {cc : ByteArray} {pc : Nat} {t : List (Nat × Nat) × Nat} (h : zk_lku cc pc t = true) : zd_lku cc pc t := by
  unfold zk_lku at h
  split at h
  · rename_i dflt ps len hd
    obtain ⟨h1, h⟩ := zan h
    obtain ⟨h2, h⟩ := zan h
    exact ⟨dflt, ps, len, hd, h1, zde h2, zde h⟩
  · cases h
theorem zw_int : Cond.arrayClass .int ∈ zGW := zmb_t (q := (0, 52)) (by decide +kernel)
theorem zw_long : Cond.arrayClass .long ∈ zGW := zmb_t (q := (0, 131)) (by decide +kernel)
theorem zw_byte : Cond.arrayClass .byte ∈ zGW := zmb_t (q := (0, 117)) (by decide +kernel)
theorem zw_boolean : Cond.arrayClass .boolean ∈ zGW := zmb_t (q := (1, 167)) (by decide +kernel)
theorem zw_oi1 : Cond.instanceMethod objectInit ∈ zGW := zmb_t (q := (0, 23)) (by decide +kernel)
theorem zw_oi2 : Cond.code objectInit ⟨#[0xb1]⟩ 1 none ∈ zGW := zmb_t (q := (0, 24)) (by decide +kernel)
theorem zw_ac1 : Cond.native arraycopyName ∈ zGW := zmb_t (q := (2, 97)) (by decide +kernel)
theorem zw_ac2 : Cond.static arraycopyName ∈ zGW := zmb_t (q := (2, 96)) (by decide +kernel)
theorem zw_ac3 : Cond.initialized "java/lang/System" ∈ zGW := zmb_t (q := (0, 16)) (by decide +kernel)
theorem zw_mm1 : Cond.static Lib.Math.min.name ∈ zGW := zmb_t (q := (2, 93)) (by decide +kernel)
theorem zw_mm2 : Cond.code Lib.Math.min.name Lib.Math.min.code 2 (some .int) ∈ zGW := zmb_t (q := (2, 94)) (by decide +kernel)
theorem zw_mm3 : Cond.static Lib.Math.max.name ∈ zGW := zmb_t (q := (3, 74)) (by decide +kernel)
theorem zw_mm4 : Cond.code Lib.Math.max.name Lib.Math.max.code 2 (some .int) ∈ zGW := zmb_t (q := (3, 75)) (by decide +kernel)
theorem zw_mi : Cond.initialized "java/lang/Math" ∈ zGW := zmb_t (q := (0, 15)) (by decide +kernel)
def zk_newa (cc : ByteArray) (pc a nx : Nat) : Bool := zk1 cc pc a nx 2 [(100, .newarray .int), (101, .newarray .long), (102, .newarray .byte), (103, .newarray .boolean)]
theorem zk_newa_t {cc : ByteArray} {pc a nx : Nat} (h : zk_newa cc pc a nx = true) : zd_newa cc pc a nx := by
  obtain ⟨h1, q, hq, h2, h3⟩ := zk1_t h
  refine ⟨h1, ?_⟩
  simp only [List.mem_cons, List.not_mem_nil, or_false] at hq
  rcases hq with rfl | rfl | rfl | rfl
  · exact Or.inl ⟨h2, h3, zw_int⟩
  · exact Or.inr (Or.inl ⟨h2, h3, zw_long⟩)
  · exact Or.inr (Or.inr (Or.inl ⟨h2, h3, zw_byte⟩))
  · exact Or.inr (Or.inr (Or.inr ⟨h2, h3, zw_boolean⟩))
def zk_anewa (cc : ByteArray) (own : String) (pc a nx x : Nat) : Bool := decide (nx = pc + 3) && (decide (104 ≤ a) && (match vwCl[a - 104]? with
  | some r => (decide (r.1 = RX8) || decide (r.1 = RX3)) && (zdc cc pc (.anewarray (x % 4096)) 3 && zmb (zpx x) (.classLink own (x % 4096) r.1))
  | none => false))
theorem zk_anewa_t {cc : ByteArray} {own : String} {pc a nx x : Nat} (h : zk_anewa cc own pc a nx x = true) : zd_anewa cc own pc a nx := by
  obtain ⟨h1, h⟩ := zan h
  obtain ⟨h2, h⟩ := zan h
  have h2 := zde h2
  split at h
  · rename_i r hr
    obtain ⟨h3, h⟩ := zan h
    obtain ⟨h4, h⟩ := zan h
    refine ⟨zde h1, _, a - 104, r, by omega, ?_, hr, zdc_t h4, zmb_t h⟩
    rw [Bool.or_eq_true, decide_eq_true_eq, decide_eq_true_eq] at h3
    exact h3
  · cases h
def zkfd (ty : FieldType) (v : Nat) : Bool := match ty with
  | .int => decide (v = 0)
  | .boolean => decide (v = 0)
  | .long => decide (v = 36893488147419103232)
  | .object _ => decide (v = 92233720368547758080)
  | .array _ => decide (v = 92233720368547758080)
  | _ => false
theorem zkfd_t {ty : FieldType} {v : Nat} (h : zkfd ty v = true) : zfd ty v := by
  unfold zkfd at h
  unfold zfd
  split at h
  · exact Or.inl ⟨Or.inl rfl, zde h⟩
  · exact Or.inl ⟨Or.inr rfl, zde h⟩
  · exact Or.inr (Or.inl ⟨rfl, zde h⟩)
  · exact Or.inr (Or.inr ⟨Or.inl ⟨_, rfl⟩, zde h⟩)
  · exact Or.inr (Or.inr ⟨Or.inr ⟨_, rfl⟩, zde h⟩)
  · cases h
def znwp : List ((Nat × Nat) × (Nat × Nat)) := [((0, 146), (0, 7)), ((0, 195), (0, 9)), ((0, 119), (0, 5)), ((0, 34), (0, 3)), ((1, 94), (0, 12)), ((0, 167), (0, 8)), ((1, 100), (0, 13)), ((0, 26), (0, 2)), ((2, 77), (0, 14)), ((0, 103), (0, 4)), ((0, 133), (0, 6)), ((0, 18), (0, 1)), ((4, 29), (0, 10))]
def zk_new (cc : ByteArray) (own : String) (pc a nx x : Nat) (t : Nat × Nat) : Bool := decide (nx = pc + 3) && (decide (a < 13) && (zdc cc pc (.new (x % 4096)) 3 && (decide (t.1 = (zcl a).2.2.1) && (decide ((zcl a).2.2.1 ≤ 60000) && (zmb (zpx x) (.classLink own (x % 4096) (zcl a).1) &&
  (zmb (znwp.getD a ((0, 0), (0, 0))).1 (.instantiable (zcl a).1 (zcl a).2.2.1) && (zmb (znwp.getD a ((0, 0), (0, 0))).2 (.initialized (zcl a).1) && (List.range (zcl a).2.2.1).all fun k => zkfd ((zcl a).2.2.2 k) (bget t.2 k))))))))
theorem zk_new_t {cc : ByteArray} {own : String} {pc a nx x : Nat} {t : Nat × Nat} (h : zk_new cc own pc a nx x t = true) : zd_new cc own pc a nx t := by
  obtain ⟨h1, h⟩ := zan h
  obtain ⟨h2, h⟩ := zan h
  obtain ⟨h3, h⟩ := zan h
  obtain ⟨h4, h⟩ := zan h
  obtain ⟨h5, h⟩ := zan h
  obtain ⟨h6, h⟩ := zan h
  obtain ⟨h7, h⟩ := zan h
  obtain ⟨h8, h⟩ := zan h
  exact ⟨zde h1, zde h2, _, _, _, _, _, zdc_t h3, zcl_t a (zde h2), zde h4, zde h5, zmb_t h6, zmb_t h7, zmb_t h8, fun k hk => zkfd_t (List.all_eq_true.mp h k (List.mem_range.mpr hk))⟩
def zk_oini (cc : ByteArray) (own : String) (pc nx x : Nat) : Bool := decide (nx = pc + 3) && (zdc cc pc (.invokespecial (x % 4096)) 3 && zmb (zpx x) (.methodLink own (x % 4096) objectInit))
theorem zk_oini_t {cc : ByteArray} {own : String} {pc nx x : Nat} (h : zk_oini cc own pc nx x = true) : zd_oini cc own pc nx := by
  obtain ⟨h1, h⟩ := zan h
  obtain ⟨h2, h⟩ := zan h
  exact ⟨zde h1, _, zdc_t h2, zmb_t h, zw_oi1, zw_oi2⟩
def zk_copy (cc : ByteArray) (own : String) (pc nx x : Nat) : Bool := decide (nx = pc + 3) && (zdc cc pc (.invokestatic (x % 4096)) 3 && zmb (zpx x) (.methodLink own (x % 4096) arraycopyName))
theorem zk_copy_t {cc : ByteArray} {own : String} {pc nx x : Nat} (h : zk_copy cc own pc nx x = true) : zd_copy cc own pc nx := by
  obtain ⟨h1, h⟩ := zan h
  obtain ⟨h2, h⟩ := zan h
  exact ⟨zde h1, _, zdc_t h2, zmb_t h, zw_ac1, zw_ac2, zw_ac3⟩
