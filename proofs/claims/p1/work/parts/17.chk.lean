/-! The check of a place of a method's code, by program; what it gives -/
def zTj (j : Nat) : List Cond := match j with
  | 0 => tables_1_1
  | 1 => tables_1_2
  | 2 => tables_1_3
  | 3 => tables_1_4
  | 4 => tables_1_5
  | 5 => tables_1_6
  | 6 => tables_1_7
  | _ => k2_sels lw_privs
def zmb (q : Nat × Nat) (w : Cond) : Bool := decide ((zTj q.1)[q.2]? = some w) && goodWord w
theorem zTj_in {j : Nat} {w : Cond} (h : w ∈ zTj j) : w ∈ lw_tbl := by
  have up : w ∈ tables_1 → w ∈ lw_tbl := fun h => List.mem_append_right _ h
  unfold tables_1 at up
  match j, h with
  | 0, h => exact up (List.mem_append_left _ h)
  | 1, h => exact up (List.mem_append_right _ (List.mem_append_left _ h))
  | 2, h => exact up (List.mem_append_right _ (List.mem_append_right _ (List.mem_append_left _ h)))
  | 3, h => exact up (List.mem_append_right _ (List.mem_append_right _ (List.mem_append_right _ (List.mem_append_left _ h))))
  | 4, h => exact up (List.mem_append_right _ (List.mem_append_right _ (List.mem_append_right _ (List.mem_append_right _ (List.mem_append_left _ h)))))
  | 5, h => exact up (List.mem_append_right _ (List.mem_append_right _ (List.mem_append_right _ (List.mem_append_right _ (List.mem_append_right _ (List.mem_append_left _ h))))))
  | 6, h => exact up (List.mem_append_right _ (List.mem_append_right _ (List.mem_append_right _ (List.mem_append_right _ (List.mem_append_right _ (List.mem_append_right _ h))))))
  | n + 7, h => exact List.mem_append_left _ h
theorem zmb_t {q : Nat × Nat} {w : Cond} (h : zmb q w = true) : w ∈ zGW := by
  unfold zmb at h
  rw [Bool.and_eq_true, decide_eq_true_eq] at h
  exact List.mem_filter.mpr ⟨zTj_in (List.mem_of_getElem? h.1), h.2⟩
def zlkp (l : List (Nat × Nat × Nat)) (cp : Nat) : Nat × Nat := match l with
  | [] => (99, 100000)
  | e :: t => if e.1 = cp then e.2 else zlkp t cp
def zdc (cc : ByteArray) (pc : Nat) (i : Instr) (n : Nat) : Bool := decide (decode cc pc = .ok (i, n))
theorem zdc_t {cc : ByteArray} {pc : Nat} {i : Instr} {n : Nat} (h : zdc cc pc i n = true) : decode cc pc = .ok (i, n) := of_decide_eq_true h
/-- a chain of checks -/
theorem zan {a b : Bool} (h : (a && b) = true) : a = true ∧ b = true := by rwa [Bool.and_eq_true] at h
theorem zde {q : Prop} [Decidable q] (h : decide q = true) : q := of_decide_eq_true h
theorem zif {a : Prop} [Decidable a] {b c : Bool} (h : (if a then b else c) = true) : (a ∧ b = true) ∨ (¬ a ∧ c = true) := by
  by_cases g : a
  · rw [if_pos g] at h; exact Or.inl ⟨g, h⟩
  · rw [if_neg g] at h; exact Or.inr ⟨g, h⟩
def zn4 (a : Nat) (f : Fin 4 → Bool) : Bool := if h : a < 4 then f ⟨a, h⟩ else false
theorem zn4_t {a : Nat} {f : Fin 4 → Bool} (h : zn4 a f = true) : ∃ k : Fin 4, (k : Nat) = a ∧ f k = true := by
  unfold zn4 at h
  by_cases g : a < 4
  · rw [dif_pos g] at h; exact ⟨⟨a, g⟩, rfl, h⟩
  · rw [dif_neg g] at h; cases h
def zk_load (cc : ByteArray) (nL pc a b nx x : Nat) : Bool := decide (a < nL) &&
  (if b = 0 then (if x = 0 then zn4 a fun k => zdc cc pc (.iload_n k) 1 && decide (nx = pc + 1) else zdc cc pc (.iload a) 2 && decide (nx = pc + 2)) else
   if b = 1 then (if x = 0 then zn4 a fun k => zdc cc pc (.lload_n k) 1 && decide (nx = pc + 1) else zdc cc pc (.lload a) 2 && decide (nx = pc + 2)) else
   if b = 2 then (if x = 0 then zn4 a fun k => zdc cc pc (.aload_n k) 1 && decide (nx = pc + 1) else zdc cc pc (.aload a) 2 && decide (nx = pc + 2)) else false)
theorem zk_load_t {cc : ByteArray} {nL pc a b nx x : Nat} (h : zk_load cc nL pc a b nx x = true) : zd_load cc nL pc a b nx := by
  obtain ⟨h1, h⟩ := zan h
  refine ⟨zde h1, ?_⟩
  rcases zif h with ⟨hb, h⟩ | ⟨-, h⟩
  · left
    refine ⟨hb, ?_⟩
    rcases zif h with ⟨-, h⟩ | ⟨-, h⟩
    · obtain ⟨k, hk, h⟩ := zn4_t h
      obtain ⟨h2, h3⟩ := zan h
      exact Or.inl ⟨k, hk, zdc_t h2, zde h3⟩
    · obtain ⟨h2, h3⟩ := zan h
      exact Or.inr ⟨zdc_t h2, zde h3⟩
  · rcases zif h with ⟨hb, h⟩ | ⟨-, h⟩
    · right; left
      refine ⟨hb, ?_⟩
      rcases zif h with ⟨-, h⟩ | ⟨-, h⟩
      · obtain ⟨k, hk, h⟩ := zn4_t h
        obtain ⟨h2, h3⟩ := zan h
        exact Or.inl ⟨k, hk, zdc_t h2, zde h3⟩
      · obtain ⟨h2, h3⟩ := zan h
        exact Or.inr ⟨zdc_t h2, zde h3⟩
    · rcases zif h with ⟨hb, h⟩ | ⟨-, h⟩
      · right; right
        refine ⟨hb, ?_⟩
        rcases zif h with ⟨-, h⟩ | ⟨-, h⟩
        · obtain ⟨k, hk, h⟩ := zn4_t h
          obtain ⟨h2, h3⟩ := zan h
          exact Or.inl ⟨k, hk, zdc_t h2, zde h3⟩
        · obtain ⟨h2, h3⟩ := zan h
          exact Or.inr ⟨zdc_t h2, zde h3⟩
      · cases h
def zk_store (cc : ByteArray) (nL pc a b nx x : Nat) : Bool := decide (a < nL) &&
  (if b = 0 then (if x = 0 then zn4 a fun k => zdc cc pc (.istore_n k) 1 && decide (nx = pc + 1) else zdc cc pc (.istore a) 2 && decide (nx = pc + 2)) else
   if b = 2 then (if x = 0 then zn4 a fun k => zdc cc pc (.astore_n k) 1 && decide (nx = pc + 1) else zdc cc pc (.astore a) 2 && decide (nx = pc + 2)) else false)
theorem zk_store_t {cc : ByteArray} {nL pc a b nx x : Nat} (h : zk_store cc nL pc a b nx x = true) : zd_store cc nL pc a b nx := by
  obtain ⟨h1, h⟩ := zan h
  refine ⟨zde h1, ?_⟩
  rcases zif h with ⟨hb, h⟩ | ⟨-, h⟩
  · left
    refine ⟨hb, ?_⟩
    rcases zif h with ⟨-, h⟩ | ⟨-, h⟩
    · obtain ⟨k, hk, h⟩ := zn4_t h
      obtain ⟨h2, h3⟩ := zan h
      exact Or.inl ⟨k, hk, zdc_t h2, zde h3⟩
    · obtain ⟨h2, h3⟩ := zan h
      exact Or.inr ⟨zdc_t h2, zde h3⟩
  · rcases zif h with ⟨hb, h⟩ | ⟨-, h⟩
    · right
      refine ⟨hb, ?_⟩
      rcases zif h with ⟨-, h⟩ | ⟨-, h⟩
      · obtain ⟨k, hk, h⟩ := zn4_t h
        obtain ⟨h2, h3⟩ := zan h
        exact Or.inl ⟨k, hk, zdc_t h2, zde h3⟩
      · obtain ⟨h2, h3⟩ := zan h
        exact Or.inr ⟨zdc_t h2, zde h3⟩
    · cases h
def zk_lstore (cc : ByteArray) (nL pc a nx x : Nat) : Bool := decide (a + 1 < nL) && (if x = 0 then zn4 a fun k => zdc cc pc (.lstore_n k) 1 && decide (nx = pc + 1) else zdc cc pc (.lstore a) 2 && decide (nx = pc + 2))
theorem zk_lstore_t {cc : ByteArray} {nL pc a nx x : Nat} (h : zk_lstore cc nL pc a nx x = true) : zd_lstore cc nL pc a nx := by
  obtain ⟨h1, h⟩ := zan h
  refine ⟨zde h1, ?_⟩
  rcases zif h with ⟨-, h⟩ | ⟨-, h⟩
  · obtain ⟨k, hk, h⟩ := zn4_t h
    obtain ⟨h2, h3⟩ := zan h
    exact Or.inl ⟨k, hk, zdc_t h2, zde h3⟩
  · obtain ⟨h2, h3⟩ := zan h
    exact Or.inr ⟨zdc_t h2, zde h3⟩
/-- a signed number of 32 bits -/
def zsg (a : Nat) : Int := if a < 2147483648 then (a : Int) else (a : Int) - 4294967296
def zk_iinc (cc : ByteArray) (nL pc a b nx : Nat) : Bool := decide (a < nL) && (decide (nx = pc + 3) && (zdc cc pc (.iinc a (zsg b)) 3 && decide (Int32.ofInt (zsg b) = Int32.ofNat b)))
theorem zk_iinc_t {cc : ByteArray} {nL pc a b nx : Nat} (h : zk_iinc cc nL pc a b nx = true) : zd_iinc cc nL pc a b nx := by
  obtain ⟨h1, h⟩ := zan h
  obtain ⟨h2, h⟩ := zan h
  obtain ⟨h3, h⟩ := zan h
  exact ⟨zde h1, zde h2, _, zdc_t h3, zde h⟩
def zk_push (cc : ByteArray) (own : String) (kp : Nat → Nat × Nat) (pc a b nx x : Nat) : Bool :=
  if x = 0 then decide (a ≤ 4294967295) && (decide (nx = pc + 1) && (zdc cc pc (.iconst (zsg a)) 1 && decide (Int32.ofInt (zsg a) = Int32.ofNat a))) else
  if x = 1 then decide (a ≤ 4294967295) && (decide (nx = pc + 2) && (zdc cc pc (.bipush (zsg a)) 2 && decide ((Int8.ofInt (zsg a)).toInt32 = Int32.ofNat a))) else
  if x = 2 then decide (a ≤ 4294967295) && (decide (nx = pc + 3) && (zdc cc pc (.sipush (zsg a)) 3 && decide ((Int16.ofInt (zsg a)).toInt32 = Int32.ofNat a))) else
  if x = 3 then decide (a ≤ 4294967295) && (decide (nx = pc + 2) && (zdc cc pc (.ldc b) 2 && zmb (kp b) (.constant own b (Int32.ofNat a)))) else
  if x = 4 then decide (a ≤ 4294967295) && (decide (nx = pc + 3) && (zdc cc pc (.ldc_w b) 3 && zmb (kp b) (.constant own b (Int32.ofNat a)))) else
  if x = 5 then decide (36893488147419103232 ≤ a) && (decide (a < 55340232221128654848) && (decide (nx = pc + 3) && (zdc cc pc (.ldc2_w b) 3 && zmb (kp b) (.constantLong own b (Int64.ofNat (a - 36893488147419103232)))))) else
  if x = 6 then decide (nx = pc + 1) && ((decide (a = 36893488147419103232) && zdc cc pc (.lconst 0) 1) || (decide (a = 36893488147419103233) && zdc cc pc (.lconst 1) 1)) else
  decide (a = 92233720368547758080) && (decide (nx = pc + 1) && zdc cc pc .aconst_null 1)
theorem zk_push_t {cc : ByteArray} {own : String} {kp : Nat → Nat × Nat} {pc a b nx x : Nat} (h : zk_push cc own kp pc a b nx x = true) : zd_push cc own pc a nx := by
  unfold zd_push
  rcases zif h with ⟨-, h⟩ | ⟨-, h⟩
  · obtain ⟨h1, h⟩ := zan h
    obtain ⟨h2, h⟩ := zan h
    obtain ⟨h3, h⟩ := zan h
    exact Or.inl ⟨_, zde h1, zde h2, zdc_t h3, zde h⟩
  rcases zif h with ⟨-, h⟩ | ⟨-, h⟩
  · obtain ⟨h1, h⟩ := zan h
    obtain ⟨h2, h⟩ := zan h
    obtain ⟨h3, h⟩ := zan h
    exact Or.inr (Or.inl ⟨_, zde h1, zde h2, zdc_t h3, zde h⟩)
  rcases zif h with ⟨-, h⟩ | ⟨-, h⟩
  · obtain ⟨h1, h⟩ := zan h
    obtain ⟨h2, h⟩ := zan h
    obtain ⟨h3, h⟩ := zan h
    exact Or.inr (Or.inr (Or.inl ⟨_, zde h1, zde h2, zdc_t h3, zde h⟩))
  rcases zif h with ⟨-, h⟩ | ⟨-, h⟩
  · obtain ⟨h1, h⟩ := zan h
    obtain ⟨h2, h⟩ := zan h
    obtain ⟨h3, h⟩ := zan h
    exact Or.inr (Or.inr (Or.inr (Or.inl ⟨_, zde h1, zde h2, zdc_t h3, zmb_t h⟩)))
  rcases zif h with ⟨-, h⟩ | ⟨-, h⟩
  · obtain ⟨h1, h⟩ := zan h
    obtain ⟨h2, h⟩ := zan h
    obtain ⟨h3, h⟩ := zan h
    exact Or.inr (Or.inr (Or.inr (Or.inr (Or.inl ⟨_, zde h1, zde h2, zdc_t h3, zmb_t h⟩))))
  rcases zif h with ⟨-, h⟩ | ⟨-, h⟩
  · obtain ⟨h0, h⟩ := zan h
    obtain ⟨h1, h⟩ := zan h
    obtain ⟨h2, h⟩ := zan h
    obtain ⟨h3, h⟩ := zan h
    have h0 := zde h0
    have h1 := zde h1
    exact Or.inr (Or.inr (Or.inr (Or.inr (Or.inr (Or.inl ⟨_, a - 36893488147419103232, by omega, by omega, zde h2, zdc_t h3, zmb_t h⟩)))))
  rcases zif h with ⟨-, h⟩ | ⟨-, h⟩
  · obtain ⟨h2, h⟩ := zan h
    rw [Bool.or_eq_true] at h
    rcases h with h | h
    · obtain ⟨h1, h⟩ := zan h
      exact Or.inr (Or.inr (Or.inr (Or.inr (Or.inr (Or.inr (Or.inl ⟨0, zde h1, zde h2, zdc_t h⟩))))))
    · obtain ⟨h1, h⟩ := zan h
      exact Or.inr (Or.inr (Or.inr (Or.inr (Or.inr (Or.inr (Or.inl ⟨1, zde h1, zde h2, zdc_t h⟩))))))
  · obtain ⟨h1, h⟩ := zan h
    obtain ⟨h2, h⟩ := zan h
    exact Or.inr (Or.inr (Or.inr (Or.inr (Or.inr (Or.inr (Or.inr ⟨zde h1, zde h2, zdc_t h⟩))))))
