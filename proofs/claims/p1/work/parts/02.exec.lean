/-! A pure reader of bytecode over numbers: values, cells and paths as plain numbers and lists; the kernel counts with it.
A value is a number: below 2 ^ 64 an int (below 2 ^ 32), from 2 ^ 64 on an unknown int by its number, from 2 * 2 ^ 64 on a long, from 3 * 2 ^ 64 on an unknown long, from 4 * 2 ^ 64 on a reference by the cell's number, 5 * 2 ^ 64 null, 6 * 2 ^ 64 nothing. -/
abbrev zS : Type := List (Nat × Nat)
abbrev zC : Type := Nat × Nat × Nat
abbrev zH : Type := List (List zC)
/-- unknowns' intervals (moved up by 2 ^ 63); cells; how many; room for cells; room for places -/
abbrev zM : Type := zS × zH × Nat × Nat × Nat
/-- 1: it returned with that value; else: not told -/
abbrev zO : Type := Nat × Nat × zS × zH × Nat
abbrev zK : Type := Nat → Nat → List Nat → zM → List zO
abbrev zHa : Type := zK → Nat → Nat → List Nat → zM → Nat → Nat → Nat → List zO
abbrev zMt : Type := Nat × Nat × Nat × Nat × Nat
abbrev zD : Type := List (Nat × Nat × Nat × Nat)
abbrev zCal : Type := Nat → zS → List Nat → zH → Nat → List zO
/-- tables that a claim gives: methods; classes (fields, what a new object holds); switches -/
abbrev zE : Type := List (List zMt) × List (Nat × Nat) × List (Nat × List Nat × Nat) × List (List (Nat × Nat) × Nat)
def zfail : List zO := [(0, 0, [], [], 0)]
noncomputable def zget {α : Type} (d : α) (l : List α) : Nat → α := List.rec (motive := fun _ => Nat → α) (fun _ => d) (fun a _ ih n => Nat.rec (motive := fun _ => α) a (fun m _ => ih m) n) l
noncomputable def zset {α β : Type} (x : α) (l : List α) : (List α → β) → Nat → β := List.rec (motive := fun _ => (List α → β) → Nat → β) (fun k _ => k []) (fun a t ih k n => Nat.rec (motive := fun _ => β) (k (x :: t)) (fun m _ => ih (fun r => k (a :: r)) m) n) l
noncomputable def zapp {α : Type} (l r : List α) : List α := List.rec (motive := fun _ => List α) r (fun a _ ih => a :: ih) l
noncomputable def zlen {α : Type} (l : List α) : Nat := List.rec (motive := fun _ => Nat) Nat.zero (fun _ _ ih => Nat.succ ih) l
noncomputable def frc {α : Type} (n : Nat) (k : Nat → α) : α := Nat.rec (motive := fun _ => α) (k Nat.zero) (fun m _ => k (Nat.succ m)) n
def bget (N i : Nat) : Nat := Nat.mod (Nat.shiftRight N (Nat.mul 72 i)) 4722366482869645213696
def bset (N i v : Nat) : Nat := Nat.xor N (Nat.shiftLeft (Nat.xor (bget N i) v) (Nat.mul 72 i))
noncomputable def hget (h : zH) (a : Nat) : zC := zget (99, 0, 0) (zget [] h (Nat.div a 8)) (Nat.mod a 8)
noncomputable def hset {β : Type} (h : zH) (a : Nat) (c : zC) (k : zH → β) : β := zset c (zget [] h (Nat.div a 8)) (fun r => zset r h k (Nat.div a 8)) (Nat.mod a 8)
def zkd (v : Nat) : Nat := Nat.shiftRight v 65
/-- the interval of an unknown -/
noncomputable def ziv (S : zS) (i : Nat) : Nat × Nat := zget (0, 18446744073709551615) S i
/-- an interval of one number: that number -/
noncomputable def zr1 (q : Nat × Nat) (c m t : Nat) : Nat := cond (Nat.beq q.1 q.2) (Nat.add t (Nat.mod (Nat.add q.1 9223372036854775808) m)) c
/-- a value, the known ones of the unknowns in their numbers -/
noncomputable def zrs (S : zS) (c : Nat) : Nat :=
  cond (Nat.ble 73786976294838206464 c) c
    (cond (Nat.ble 55340232221128654848 c) (zr1 (ziv S (Nat.sub c 55340232221128654848)) c 18446744073709551616 36893488147419103232)
      (cond (Nat.ble 36893488147419103232 c) c
        (cond (Nat.ble 18446744073709551616 c) (zr1 (ziv S (Nat.sub c 18446744073709551616)) c 4294967296 0) c)))
/-- the number of an unknown -/
noncomputable def zid (c : Nat) : Nat := cond (Nat.ble 55340232221128654848 c) (Nat.sub c 55340232221128654848) (Nat.sub c 18446744073709551616)
/-- is it an unknown? -/
noncomputable def zsy (c : Nat) : Bool := cond (Nat.ble 73786976294838206464 c) false (cond (Nat.ble 55340232221128654848 c) true (cond (Nat.ble 36893488147419103232 c) false (Nat.ble 18446744073709551616 c)))
/-- a known number, moved up by 2 ^ 63 -/
noncomputable def zbi (c : Nat) : Nat := cond (Nat.ble 18446744073709551616 c) (Nat.mod (Nat.add c 9223372036854775808) 18446744073709551616) (cond (Nat.ble 2147483648 c) (Nat.add c 9223372032559808512) (Nat.add c 9223372036854775808))
noncomputable def zpc (S : zS) (i lo hi : Nat) (k : zS → List zO) : List zO := cond (Nat.ble lo hi) (frc lo fun lo => frc hi fun hi => zset (lo, hi) S k i) []
noncomputable def zpcs (S : zS) (i lo n : Nat) (k : zS → List zO) : List zO := Nat.rec (motive := fun _ => List zO) [] (fun j ih => zapp (frc (Nat.add lo j) fun v => zset (v, v) S k i) ih) n
noncomputable def zsp1 (S : zS) (i : Nat) (q : Nat × Nat) (k : zS → List zO) : List zO := cond (Nat.ble (Nat.sub q.2 q.1) 70) (zpcs S i q.1 (Nat.succ (Nat.sub q.2 q.1)) k) zfail
/-- an unknown in each of its numbers -/
noncomputable def zsp (S : zS) (c : Nat) (k : zS → List zO) : List zO := zsp1 S (zid c) (ziv S (zid c)) k
/-- a place of a method's code: 8 bits: which; 24: the next place; 32: b; 24: for the tables; then a -/
def zfet (code pc : Nat) : Nat := Nat.mod (Nat.shiftRight code (Nat.mul 160 pc)) 1461501637330902918203684832716283019655932542976
noncomputable def zdf (D : zD) (o x y : Nat) : Nat := List.rec (motive := fun _ => Nat) 110680464442257309696 (fun e _ ih => cond (Nat.beq e.1 o) (cond (Nat.beq e.2.1 x) (cond (Nat.beq e.2.2.1 y) e.2.2.2 ih) ih) ih) D
-- instructions
def z_bad : zHa := fun _ _ _ _ _ _ _ _ => zfail
noncomputable def z_load : zHa := fun ih _ L st m a b nx =>
  frc (bget L a) fun v => cond (Nat.beq (zkd v) b) (ih nx L (v :: st) m) zfail
def z_push : zHa := fun ih _ L st m a _ nx => ih nx L (a :: st) m
noncomputable def z_goto : zHa := fun ih _ L st m _ b _ => ih b L st m
noncomputable def z_noL (L a : Nat) (k : List zO) : List zO := cond (Nat.beq a 0) k (cond (Nat.beq (zkd (bget L (Nat.pred a))) 1) zfail k)
noncomputable def z_store1 (ih : zK) (L v : Nat) (r : List Nat) (m : zM) (a b nx : Nat) : List zO :=
  cond (Nat.beq (zkd v) b) (z_noL L a (frc (bset L a v) fun L1 => ih nx L1 r m)) zfail
noncomputable def z_store : zHa := fun ih _ L st m a b nx => List.rec (motive := fun _ => List zO) zfail (fun v r _ => z_store1 ih L v r m a b nx) st
noncomputable def z_lstore1 (ih : zK) (L v : Nat) (r : List Nat) (m : zM) (a nx : Nat) : List zO :=
  cond (Nat.beq (zkd v) 1) (z_noL L a (frc (bset (bset L a v) (Nat.succ a) 110680464442257309696) fun L1 => ih nx L1 r m)) zfail
noncomputable def z_lstore : zHa := fun ih _ L st m a _ nx => List.rec (motive := fun _ => List zO) zfail (fun v r _ => z_lstore1 ih L v r m a nx) st
noncomputable def z_iinc2 (ih : zK) (pc L : Nat) (st : List Nat) (m : zM) (a b nx v : Nat) : List zO :=
  cond (Nat.ble v 4294967295)
    (z_noL L a (frc (bset L a (Nat.mod (Nat.add v b) 4294967296)) fun L1 => ih nx L1 st m))
    (cond (Nat.beq (zkd v) 0) (cond (zsy v) (zsp m.1 v fun S1 => ih pc L st (S1, m.2)) zfail) zfail)
noncomputable def z_iinc : zHa := fun ih pc L st m a b nx => frc (zrs m.1 (bget L a)) fun v => z_iinc2 ih pc L st m a b nx v
/-- of known ints, as numbers below 2 ^ 32; 2 ^ 32: it isn't told -/
def zi0 (x y : Nat) : Nat := Nat.mod (Nat.add x y) 4294967296
def zi1 (x y : Nat) : Nat := Nat.mod (Nat.add x (Nat.sub 4294967296 y)) 4294967296
def zi2 (x y : Nat) : Nat := Nat.mod (Nat.mul x y) 4294967296
def zi3 (x y : Nat) : Nat := Nat.land x y
def zi4 (x y : Nat) : Nat := Nat.lor x y
def zi6 (x y : Nat) : Nat := cond (Nat.ble y 31) (Nat.mod (Nat.shiftLeft x y) 4294967296) 4294967296
def zi9 (x y : Nat) : Nat := cond (Nat.ble x 2147483647) (cond (Nat.ble y 2147483647) (cond (Nat.beq y 0) 4294967296 (Nat.div x y)) 4294967296) 4294967296
def zi10 (x y : Nat) : Nat := cond (Nat.ble x 2147483647) (cond (Nat.ble y 2147483647) (cond (Nat.beq y 0) 4294967296 (Nat.mod x y)) 4294967296) 4294967296
def zibad (_ _ : Nat) : Nat := 4294967296
def zibs : List (Nat → Nat → Nat) := [zi0, zi1, zi2, zi3, zi4, zibad, zi6, zibad, zibad, zi9, zi10]
noncomputable def z_op2 (D : zD) (ih : zK) (pc L x y : Nat) (r st : List Nat) (m : zM) (w kd nx : Nat) : List zO :=
  frc (zdf D w x y) fun v => cond (Nat.beq (zkd v) kd) (ih nx L (v :: r) m)
    (cond (zsy x) (zsp m.1 x fun S1 => ih pc L st (S1, m.2)) (cond (zsy y) (zsp m.1 y fun S1 => ih pc L st (S1, m.2)) zfail))
noncomputable def z_ibF (ih : zK) (L x y : Nat) (r : List Nat) (m : zM) (w nx : Nat) : List zO :=
  frc (zget zibad zibs w x y) fun v => cond (Nat.ble v 4294967295) (ih nx L (v :: r) m) zfail
noncomputable def z_ibS1 (D : zD) (ih : zK) (pc L x y : Nat) (r st : List Nat) (m : zM) (w nx : Nat) : List zO :=
  cond (Nat.ble x 4294967295) (cond (Nat.ble y 4294967295) (z_ibF ih L x y r m w nx) (z_op2 D ih pc L x y r st m w 0 nx)) (z_op2 D ih pc L x y r st m w 0 nx)
noncomputable def z_ibS (D : zD) (ih : zK) (pc L x y : Nat) (r st : List Nat) (m : zM) (w nx : Nat) : List zO :=
  cond (Nat.beq (zkd x) 0) (cond (Nat.beq (zkd y) 0) (frc (zrs m.1 x) fun x1 => frc (zrs m.1 y) fun y1 => z_ibS1 D ih pc L x1 y1 r st m w nx) zfail) zfail
noncomputable def z_ib2 (D : zD) (ih : zK) (pc L x y : Nat) (r st : List Nat) (m : zM) (w nx : Nat) : List zO :=
  cond (Nat.ble x 4294967295) (cond (Nat.ble y 4294967295) (z_ibF ih L x y r m w nx) (z_ibS D ih pc L x y r st m w nx)) (z_ibS D ih pc L x y r st m w nx)
noncomputable def z_ib (D : zD) : zHa := fun ih pc L st m w _ nx =>
  List.rec (motive := fun _ => List zO) zfail (fun y r1 _ => List.rec (motive := fun _ => List zO) zfail (fun x r _ => z_ib2 D ih pc L x y r st m w nx) r1) st
def zl0 (x y : Nat) : Nat := Nat.mod (Nat.add x y) 18446744073709551616
def zl1 (x y : Nat) : Nat := Nat.mod (Nat.add x (Nat.sub 18446744073709551616 y)) 18446744073709551616
def zl3 (x y : Nat) : Nat := Nat.land x y
def zl4 (x y : Nat) : Nat := Nat.lor x y
def zlbad (_ _ : Nat) : Nat := 18446744073709551616
def zlbs : List (Nat → Nat → Nat) := [zl0, zl1, zlbad, zl3, zl4]
noncomputable def z_lb1 (D : zD) (ih : zK) (pc L x y : Nat) (r st : List Nat) (m : zM) (w nx : Nat) : List zO :=
  cond (Nat.ble 55340232221128654848 x) (z_op2 D ih pc L x y r st m (Nat.add w 20) 1 nx)
    (cond (Nat.ble 55340232221128654848 y) (z_op2 D ih pc L x y r st m (Nat.add w 20) 1 nx)
      (frc (zget zlbad zlbs w (Nat.sub x 36893488147419103232) (Nat.sub y 36893488147419103232)) fun v => cond (Nat.ble v 18446744073709551615)
        (frc (Nat.add 36893488147419103232 v) fun v => ih nx L (v :: r) m) zfail))
noncomputable def z_lb2 (D : zD) (ih : zK) (pc L x y : Nat) (r st : List Nat) (m : zM) (w nx : Nat) : List zO :=
  cond (Nat.beq (zkd x) 1) (cond (Nat.beq (zkd y) 1) (frc (zrs m.1 x) fun x1 => frc (zrs m.1 y) fun y1 => z_lb1 D ih pc L x1 y1 r st m w nx) zfail) zfail
noncomputable def z_lb (D : zD) : zHa := fun ih pc L st m w _ nx =>
  List.rec (motive := fun _ => List zO) zfail (fun y r1 _ => List.rec (motive := fun _ => List zO) zfail (fun x r _ => z_lb2 D ih pc L x y r st m w nx) r1) st
/-- the unsigned right shift of a known long by a known int below 64 -/
def zs2 (x y : Nat) : Nat := Nat.shiftRight x y
def zlss : List (Nat → Nat → Nat) := [zlbad, zlbad, zs2]
noncomputable def z_ls1 (D : zD) (ih : zK) (pc L x y : Nat) (r st : List Nat) (m : zM) (w nx : Nat) : List zO :=
  cond (Nat.ble y 63)
    (cond (Nat.ble 55340232221128654848 x) (z_op2 D ih pc L x y r st m (Nat.add w 30) 1 nx)
      (frc (zget zlbad zlss w (Nat.sub x 36893488147419103232) y) fun v => cond (Nat.ble v 18446744073709551615)
        (frc (Nat.add 36893488147419103232 v) fun v => ih nx L (v :: r) m) zfail))
    (cond (zsy y) (zsp m.1 y fun S1 => ih pc L st (S1, m.2)) zfail)
noncomputable def z_ls2 (D : zD) (ih : zK) (pc L x y : Nat) (r st : List Nat) (m : zM) (w nx : Nat) : List zO :=
  cond (Nat.beq (zkd x) 1) (cond (Nat.beq (zkd y) 0) (frc (zrs m.1 x) fun x1 => frc (zrs m.1 y) fun y1 => z_ls1 D ih pc L x1 y1 r st m w nx) zfail) zfail
noncomputable def z_ls (D : zD) : zHa := fun ih pc L st m w _ nx =>
  List.rec (motive := fun _ => List zO) zfail (fun y r1 _ => List.rec (motive := fun _ => List zO) zfail (fun x r _ => z_ls2 D ih pc L x y r st m w nx) r1) st
noncomputable def z_i2l (ih : zK) (L x : Nat) (r : List Nat) (m : zM) (nx : Nat) : List zO :=
  cond (Nat.ble x 4294967295)
    (frc (Nat.add 36893488147419103232 (cond (Nat.ble 2147483648 x) (Nat.add x 18446744069414584320) x)) fun v => ih nx L (v :: r) m)
    (cond (zsy x) (cond (Nat.ble 9223372034707292160 (ziv m.1 (zid x)).1) (cond (Nat.ble (ziv m.1 (zid x)).2 9223372039002259455)
      (frc (Nat.add 36893488147419103232 x) fun v => ih nx L (v :: r) m) zfail) zfail) zfail)
noncomputable def z_i2b (ih : zK) (L x : Nat) (r : List Nat) (m : zM) (nx : Nat) : List zO :=
  cond (Nat.ble x 127) (ih nx L (x :: r) m)
    (cond (zsy x) (cond (Nat.ble 9223372036854775680 (ziv m.1 (zid x)).1) (cond (Nat.ble (ziv m.1 (zid x)).2 9223372036854775935) (ih nx L (x :: r) m) zfail) zfail) zfail)
noncomputable def z_cv1 (ih : zK) (L x : Nat) (r : List Nat) (m : zM) (w nx : Nat) : List zO :=
  cond (Nat.beq (zkd x) 0) (cond (Nat.beq w 0) (z_i2l ih L x r m nx) (cond (Nat.beq w 2) (z_i2b ih L x r m nx) zfail)) zfail
noncomputable def z_cv : zHa := fun ih _ L st m w _ nx => List.rec (motive := fun _ => List zO) zfail (fun x r _ => frc (zrs m.1 x) fun x1 => z_cv1 ih L x1 r m w nx) st
-- branches
def zq0 (x y : Nat) : Bool := Nat.beq x y
def zq1 (x y : Nat) : Bool := not (Nat.beq x y)
def zq2 (x y : Nat) : Bool := Nat.ble (Nat.succ x) y
def zq3 (x y : Nat) : Bool := Nat.ble y x
def zq4 (x y : Nat) : Bool := Nat.ble (Nat.succ y) x
def zq5 (x y : Nat) : Bool := Nat.ble x y
noncomputable def zci (c : Nat) : Nat → Nat → Bool := zget zq5 [zq0, zq1, zq2, zq3, zq4] c
/-- the same comparison the other way round -/
noncomputable def zsw (c : Nat) : Nat := zget c [0, 1, 4, 5, 2, 3] c
noncomputable def zmn (a b : Nat) : Nat := cond (Nat.ble a b) a b
noncomputable def zmx (a b : Nat) : Nat := cond (Nat.ble a b) b a
/-- which way, for a number below, at, above the other -/
noncomputable def zlt (c : Nat) (kT kF : zS → List zO) : zS → List zO := cond (zci c 0 1) kT kF
noncomputable def zeq (c : Nat) (kT kF : zS → List zO) : zS → List zO := cond (zci c 0 0) kT kF
noncomputable def zgt (c : Nat) (kT kF : zS → List zO) : zS → List zO := cond (zci c 1 0) kT kF
/-- an unknown, in an interval, against the number v -/
noncomputable def zref (S : zS) (i : Nat) (q : Nat × Nat) (v c : Nat) (kT kF : zS → List zO) : List zO :=
  cond (Nat.ble c 1)
    (zapp (zpc S i q.1 (zmn q.2 (Nat.pred v)) (zlt c kT kF)) (zapp (zpc S i (zmx q.1 v) (zmn q.2 v) (zeq c kT kF)) (zpc S i (zmx q.1 (Nat.succ v)) q.2 (zgt c kT kF))))
    (cond (Nat.ble c 3)
      (zapp (zpc S i q.1 (zmn q.2 (Nat.pred v)) (zlt c kT kF)) (zpc S i (zmx q.1 v) q.2 (zgt c kT kF)))
      (zapp (zpc S i q.1 (zmn q.2 v) (zlt c kT kF)) (zpc S i (zmx q.1 (Nat.succ v)) q.2 (zgt c kT kF))))
/-- an interval within the ints (kd 0) -/
noncomputable def zin (kd : Nat) (q : Nat × Nat) : Bool := cond (Nat.beq kd 0) (cond (Nat.ble 9223372034707292160 q.1) (Nat.ble q.2 9223372039002259455) false) true
noncomputable def zinc (kd c : Nat) : Bool := cond (Nat.beq kd 0) (Nat.ble c 4294967295) true
noncomputable def zbr2 (S : zS) (kd i : Nat) (q : Nat × Nat) (v c : Nat) (kT kF : zS → List zO) : List zO :=
  cond (zin kd q) (cond (Nat.ble (Nat.succ q.2) v) (zlt c kT kF S) (cond (Nat.ble (Nat.succ v) q.1) (zgt c kT kF S) (zref S i q v c kT kF))) zfail
noncomputable def zbr (S : zS) (kd c x y : Nat) (kT kF kR : zS → List zO) : List zO :=
  cond (zsy x) (cond (zsy y) (cond (Nat.beq x y) (zeq c kT kF S) (zsp S x kR)) (cond (zinc kd y) (frc (zbi y) fun v => zbr2 S kd (zid x) (ziv S (zid x)) v c kT kF) zfail))
    (cond (zsy y) (cond (zinc kd x) (frc (zbi x) fun v => zbr2 S kd (zid y) (ziv S (zid y)) v (zsw c) kT kF) zfail)
      (cond (zinc kd x) (cond (zinc kd y) (cond (zci c (zbi x) (zbi y)) (kT S) (kF S)) zfail) zfail))
noncomputable def z_cmpS (ih : zK) (pc L x y : Nat) (r st : List Nat) (m : zM) (c b nx kd : Nat) : List zO :=
  cond (Nat.beq (zkd x) kd) (cond (Nat.beq (zkd y) kd) (frc (zrs m.1 x) fun x1 => frc (zrs m.1 y) fun y1 =>
    zbr m.1 kd c x1 y1 (fun S1 => ih b L r (S1, m.2)) (fun S1 => ih nx L r (S1, m.2)) (fun S1 => ih pc L st (S1, m.2))) zfail) zfail
/-- an int below 2 ^ 32, moved up by 2 ^ 31 -/
def zb32 (x : Nat) : Nat := Nat.mod (Nat.add x 2147483648) 4294967296
noncomputable def z_cmpF (ih : zK) (pc L x y : Nat) (r st : List Nat) (m : zM) (c b nx : Nat) : List zO :=
  cond (Nat.ble x 4294967295) (cond (Nat.ble y 4294967295) (cond (zci c (zb32 x) (zb32 y)) (ih b L r m) (ih nx L r m)) (z_cmpS ih pc L x y r st m c b nx 0)) (z_cmpS ih pc L x y r st m c b nx 0)
noncomputable def z_icmp : zHa := fun ih pc L st m c b nx =>
  List.rec (motive := fun _ => List zO) zfail (fun y r1 _ => List.rec (motive := fun _ => List zO) zfail (fun x r _ => z_cmpF ih pc L x y r st m c b nx) r1) st
noncomputable def z_lcmp : zHa := fun ih pc L st m c b nx =>
  List.rec (motive := fun _ => List zO) zfail (fun y r1 _ => List.rec (motive := fun _ => List zO) zfail (fun x r _ => z_cmpS ih pc L x y r st m c b nx 1) r1) st
noncomputable def z_if : zHa := fun ih pc L st m c b nx => List.rec (motive := fun _ => List zO) zfail (fun x r _ => z_cmpF ih pc L x 0 r st m c b nx) st
noncomputable def z_acmp1 (ih : zK) (L x y : Nat) (r : List Nat) (m : zM) (c b nx : Nat) : List zO :=
  cond (Nat.beq (zkd x) 2) (cond (Nat.beq (zkd y) 2) (cond (Nat.ble x 92233720368547758080) (cond (Nat.ble y 92233720368547758080)
    (cond (Nat.beq c 0) (cond (Nat.beq x y) (ih b L r m) (ih nx L r m)) (cond (Nat.beq x y) (ih nx L r m) (ih b L r m))) zfail) zfail) zfail) zfail
noncomputable def z_acmp : zHa := fun ih _ L st m c b nx =>
  List.rec (motive := fun _ => List zO) zfail (fun y r1 _ => List.rec (motive := fun _ => List zO) zfail (fun x r _ => z_acmp1 ih L x y r m c b nx) r1) st
noncomputable def z_null1 (ih : zK) (L x : Nat) (r : List Nat) (m : zM) (c b nx : Nat) : List zO :=
  cond (Nat.beq (zkd x) 2) (cond (Nat.beq c 0) (cond (Nat.ble 92233720368547758080 x) (ih b L r m) (ih nx L r m)) (cond (Nat.ble 92233720368547758080 x) (ih nx L r m) (ih b L r m))) zfail
noncomputable def z_null : zHa := fun ih _ L st m c b nx => List.rec (motive := fun _ => List zO) zfail (fun x r _ => z_null1 ih L x r m c b nx) st
noncomputable def z_tab0 (ih : zK) (pc L : Nat) (r st : List Nat) (m : zM) (i : Nat) (q : Nat × Nat) (t : Nat × List Nat × Nat) : List zO :=
  cond (zin 0 q) (cond (Nat.ble (Nat.sub q.2 q.1) 70) (zpcs m.1 i q.1 (Nat.succ (Nat.sub q.2 q.1)) fun S1 => ih pc L st (S1, m.2))
    (cond (Nat.ble (zlen t.2.1) 64) (zapp (zpc m.1 i q.1 (zmn q.2 (Nat.pred t.1)) fun S1 => ih t.2.2 L r (S1, m.2))
      (zapp (zpc m.1 i (zmx q.1 t.1) (zmn q.2 (Nat.add t.1 63)) fun S1 => ih pc L st (S1, m.2))
        (zpc m.1 i (zmx q.1 (Nat.add t.1 64)) q.2 fun S1 => ih t.2.2 L r (S1, m.2)))) zfail)) zfail
noncomputable def z_tab1 (ih : zK) (pc L : Nat) (r st : List Nat) (m : zM) (x : Nat) (t : Nat × List Nat × Nat) : List zO :=
  cond (Nat.ble x 4294967295) (cond (Nat.ble t.1 (zbi x)) (ih (zget t.2.2 t.2.1 (Nat.sub (zbi x) t.1)) L r m) (ih t.2.2 L r m))
    (cond (zsy x) (z_tab0 ih pc L r st m (zid x) (ziv m.1 (zid x)) t) zfail)
noncomputable def z_tab (T : List (Nat × List Nat × Nat)) : zHa := fun ih pc L st m a _ _ => List.rec (motive := fun _ => List zO) zfail (fun x r _ =>
  cond (Nat.beq (zkd x) 0) (frc (zrs m.1 x) fun x1 => z_tab1 ih pc L r st m x1 (zget (0, [], 0) T a)) zfail) st
noncomputable def zlk (b d : Nat) (l : List (Nat × Nat)) : Nat := List.rec (motive := fun _ => Nat) d (fun e _ ih => cond (Nat.beq e.1 b) e.2 ih) l
noncomputable def z_lku1 (ih : zK) (pc L : Nat) (r st : List Nat) (m : zM) (x : Nat) (t : List (Nat × Nat) × Nat) : List zO :=
  cond (Nat.ble x 4294967295) (frc (zlk (zbi x) t.2 t.1) fun p => ih p L r m) (cond (zsy x) (zsp m.1 x fun S1 => ih pc L st (S1, m.2)) zfail)
noncomputable def z_lku (T : List (List (Nat × Nat) × Nat)) : zHa := fun ih pc L st m a _ _ => List.rec (motive := fun _ => List zO) zfail (fun x r _ =>
  cond (Nat.beq (zkd x) 0) (frc (zrs m.1 x) fun x1 => z_lku1 ih pc L r st m x1 (zget ([], 0) T a)) zfail) st
-- the heap
/-- a reference to a cell -/
noncomputable def zrf (r : Nat) (k : Nat → List zO) : List zO := cond (Nat.ble 73786976294838206464 r) (cond (Nat.ble 92233720368547758080 r) zfail (frc (Nat.sub r 73786976294838206464) k)) zfail
noncomputable def z_getf1 (ih : zK) (L : Nat) (rest : List Nat) (m : zM) (a b nx : Nat) (c : zC) : List zO :=
  cond (Nat.beq c.1 a) (frc (bget c.2.2 b) fun v => ih nx L (v :: rest) m) zfail
noncomputable def z_getf : zHa := fun ih _ L st m a b nx => List.rec (motive := fun _ => List zO) zfail (fun r rest _ => zrf r fun q => z_getf1 ih L rest m a b nx (hget m.2.1 q)) st
/-- may a field of that kind keep it? (0 int, 1 long, 2 reference, 3 boolean) -/
noncomputable def zfit (t v : Nat) : Bool := cond (Nat.beq t 3) (Nat.ble v 1) (Nat.beq (zkd v) t)
noncomputable def z_putf1 (ih : zK) (L v q : Nat) (rest : List Nat) (m : zM) (a b nx : Nat) (c : zC) : List zO :=
  cond (Nat.beq c.1 (Nat.mod a 32)) (cond (zfit (Nat.div a 32) v) (frc (bset c.2.2 b v) fun N => hset m.2.1 q (c.1, c.2.1, N) fun h1 => ih nx L rest (m.1, h1, m.2.2)) zfail) zfail
noncomputable def z_putf : zHa := fun ih _ L st m a b nx =>
  List.rec (motive := fun _ => List zO) zfail (fun v r1 _ => List.rec (motive := fun _ => List zO) zfail (fun r rest _ => zrf r fun q => z_putf1 ih L v q rest m a b nx (hget m.2.1 q)) r1) st
/-- what a fresh place of an array of that kind holds -/
noncomputable def zdv (k : Nat) : Nat := cond (Nat.beq k 101) 36893488147419103232 (cond (Nat.ble 104 k) 92233720368547758080 0)
/-- is the instruction a for arrays of the kind k? -/
noncomputable def zka (a k : Nat) : Bool := cond (Nat.beq a 104) (Nat.ble 104 k) (Nat.beq k a)
noncomputable def z_ald1 (ih : zK) (pc L i : Nat) (rest st : List Nat) (m : zM) (a nx : Nat) (c : zC) : List zO :=
  cond (zka a c.1) (cond (Nat.ble i 4294967295) (cond (Nat.ble (Nat.succ i) c.2.1) (frc (Nat.xor (bget c.2.2 i) (zdv c.1)) fun v => ih nx L (v :: rest) m) zfail)
    (cond (zsy i) (zsp m.1 i fun S1 => ih pc L st (S1, m.2)) zfail)) zfail
noncomputable def z_ald2 (ih : zK) (pc L i r : Nat) (rest st : List Nat) (m : zM) (a nx : Nat) : List zO :=
  cond (Nat.beq (zkd i) 0) (zrf r fun q => frc (zrs m.1 i) fun i1 => z_ald1 ih pc L i1 rest st m a nx (hget m.2.1 q)) zfail
noncomputable def z_ald : zHa := fun ih pc L st m a _ nx =>
  List.rec (motive := fun _ => List zO) zfail (fun i r1 _ => List.rec (motive := fun _ => List zO) zfail (fun r rest _ => z_ald2 ih pc L i r rest st m a nx) r1) st
/-- may an array of the kind k keep it? -/
noncomputable def zfib (S : zS) (v : Nat) : Bool := cond (Nat.ble v 127) true (cond (zsy v) (cond (Nat.beq (zkd v) 0) (cond (Nat.ble 9223372036854775680 (ziv S (zid v)).1) (Nat.ble (ziv S (zid v)).2 9223372036854775935) false) false) false)
noncomputable def zfia (S : zS) (k v : Nat) : Bool :=
  cond (Nat.beq k 100) (Nat.beq (zkd v) 0) (cond (Nat.beq k 101) (Nat.beq (zkd v) 1)
    (cond (Nat.beq k 102) (zfib S v) (cond (Nat.ble 104 k) (Nat.beq v 92233720368547758080) false)))
noncomputable def z_ast1 (ih : zK) (pc L v i q : Nat) (rest st : List Nat) (m : zM) (a nx : Nat) (c : zC) : List zO :=
  cond (zka a c.1) (cond (Nat.ble i 4294967295) (cond (Nat.ble (Nat.succ i) c.2.1) (cond (zfia m.1 c.1 v) (cond (Nat.beq q 0) zfail
      (frc (bset c.2.2 i (Nat.xor v (zdv c.1))) fun N => hset m.2.1 q (c.1, c.2.1, N) fun h1 => ih nx L rest (m.1, h1, m.2.2))) zfail) zfail)
    (cond (zsy i) (zsp m.1 i fun S1 => ih pc L st (S1, m.2)) zfail)) zfail
noncomputable def z_ast2 (ih : zK) (pc L v i r : Nat) (rest st : List Nat) (m : zM) (a nx : Nat) : List zO :=
  cond (Nat.beq (zkd i) 0) (zrf r fun q => frc (zrs m.1 i) fun i1 => z_ast1 ih pc L v i1 q rest st m a nx (hget m.2.1 q)) zfail
noncomputable def z_ast : zHa := fun ih pc L st m a _ nx =>
  List.rec (motive := fun _ => List zO) zfail (fun v r2 _ => List.rec (motive := fun _ => List zO) zfail (fun i r1 _ => List.rec (motive := fun _ => List zO) zfail (fun r rest _ => z_ast2 ih pc L v i r rest st m a nx) r1) r2) st
noncomputable def z_alen1 (ih : zK) (L : Nat) (rest : List Nat) (m : zM) (nx : Nat) (c : zC) : List zO := cond (Nat.ble 100 c.1) (frc c.2.1 fun n => ih nx L (n :: rest) m) zfail
noncomputable def z_alen : zHa := fun ih _ L st m _ _ nx => List.rec (motive := fun _ => List zO) zfail (fun r rest _ => zrf r fun q => z_alen1 ih L rest m nx (hget m.2.1 q)) st
/-- a new cell -/
noncomputable def zmk (ih : zK) (L : Nat) (rest : List Nat) (m : zM) (nx n : Nat) (c : zC) : List zO :=
  cond (Nat.ble 1 m.2.2.2.1) (cond (Nat.ble n m.2.2.2.2) (cond (Nat.ble m.2.2.1 126)
    (frc (Nat.add 73786976294838206464 m.2.2.1) fun r => frc (Nat.succ m.2.2.1) fun len => frc (Nat.sub m.2.2.2.1 1) fun rk => frc (Nat.sub m.2.2.2.2 n) fun rn =>
      hset m.2.1 m.2.2.1 c fun h1 => ih nx L (r :: rest) (m.1, h1, len, rk, rn)) zfail) zfail) zfail
noncomputable def z_newa : zHa := fun ih _ L st m a _ nx => List.rec (motive := fun _ => List zO) zfail (fun n0 rest _ => frc (zrs m.1 n0) fun n => cond (Nat.ble n 60000) (zmk ih L rest m nx n (a, n, 0)) zfail) st
noncomputable def z_new1 (ih : zK) (L : Nat) (st : List Nat) (m : zM) (a nx : Nat) (c : Nat × Nat) : List zO := zmk ih L st m nx c.1 (a, c.1, c.2)
noncomputable def z_new (T : List (Nat × Nat)) : zHa := fun ih _ L st m a _ nx => z_new1 ih L st m a nx (zget (0, 0) T a)
noncomputable def z_dup : zHa := fun ih _ L st m _ _ nx => List.rec (motive := fun _ => List zO) zfail (fun v r _ => cond (Nat.beq (zkd v) 1) zfail (ih nx L (v :: v :: r) m)) st
noncomputable def z_pop : zHa := fun ih _ L st m _ _ nx => List.rec (motive := fun _ => List zO) zfail (fun v r _ => cond (Nat.beq (zkd v) 1) zfail (ih nx L r m)) st
-- calls
noncomputable def ztake (n : Nat) : List Nat → List Nat → (List Nat → List Nat → List zO) → List zO :=
  Nat.rec (motive := fun _ => List Nat → List Nat → (List Nat → List Nat → List zO) → List zO) (fun acc st k => k acc st)
    (fun _ ih acc st k => List.rec (motive := fun _ => List zO) zfail (fun v r _ => cond (Nat.ble v 110680464442257309695) (ih (v :: acc) r k) zfail) st) n
noncomputable def zflat (f : zO → List zO) (l : List zO) : List zO :=
  List.rec (motive := fun _ => List zO) [] (fun o t ih => List.rec (motive := fun _ => List zO) (f o) (fun _ _ _ => zapp (f o) ih) t) l
noncomputable def z_ret (ih : zK) (L : Nat) (r : List Nat) (rk rn nx : Nat) (o : zO) : List zO :=
  cond (Nat.beq o.1 1) (ih nx L (cond (Nat.beq o.2.1 110680464442257309696) r (o.2.1 :: r)) (o.2.2.1, o.2.2.2.1, o.2.2.2.2, rk, rn)) zfail
noncomputable def zwt (l : List Nat) : Nat := List.rec (motive := fun _ => Nat) Nat.zero (fun v _ ih => cond (Nat.beq (zkd v) 1) (Nat.succ (Nat.succ ih)) (Nat.succ ih)) l
noncomputable def zmt (M : List (List zMt)) (a : Nat) : zMt := zget (0, 0, 0, 0, 0) (zget [] M (Nat.div a 16)) (Nat.mod a 16)
noncomputable def z_call1 (ih : zK) (cal : zCal) (L : Nat) (as r : List Nat) (m : zM) (a nx : Nat) (t : zMt) : List zO :=
  cond (Nat.ble (zwt r) 8) (cond (Nat.ble t.2.2.1 m.2.2.2.1) (cond (Nat.ble t.2.2.2.1 m.2.2.2.2)
    (frc (Nat.sub m.2.2.2.1 t.2.2.1) fun rk => frc (Nat.sub m.2.2.2.2 t.2.2.2.1) fun rn => zflat (z_ret ih L r rk rn nx) (cal a m.1 as m.2.1 m.2.2.1)) zfail) zfail) zfail
/-- the receiver: none (b below 64), any cell (6400), an object of that class -/
noncomputable def z_call2 (ih : zK) (cal : zCal) (L : Nat) (as r : List Nat) (m : zM) (a b nx : Nat) (t : zMt) : List zO :=
  cond (Nat.beq (Nat.div b 64) 0) (z_call1 ih cal L as r m a nx t)
    (zrf (zget 0 as 0) fun q => cond (Nat.beq (Nat.div b 64) 100) (z_call1 ih cal L as r m a nx t) (cond (Nat.beq (Nat.succ (hget m.2.1 q).1) (Nat.div b 64)) (z_call1 ih cal L as r m a nx t) zfail))
noncomputable def z_call (cal : zCal) (M : List (List zMt)) : zHa := fun ih _ L st m a b nx => ztake (Nat.mod b 64) [] st fun as r => z_call2 ih cal L as r m a b nx (zmt M a)
noncomputable def z_vret : zHa := fun _ _ _ st m _ _ _ => List.rec (motive := fun _ => List zO) [(1, 110680464442257309696, m.1, m.2.1, m.2.2.1)] (fun _ _ _ => zfail) st
noncomputable def z_xret1 (v : Nat) (m : zM) (a b : Nat) : List zO :=
  cond (Nat.beq (zkd v) a) (cond (Nat.beq b 0) [(1, v, m.1, m.2.1, m.2.2.1)] (cond (Nat.ble v 1) [(1, v, m.1, m.2.1, m.2.2.1)] zfail)) zfail
noncomputable def z_xret : zHa := fun _ _ _ st m a b _ => List.rec (motive := fun _ => List zO) zfail (fun v r _ => List.rec (motive := fun _ => List zO) (frc (zrs m.1 v) fun v1 => z_xret1 v1 m a b) (fun _ _ _ => zfail) r) st
noncomputable def z_oini : zHa := fun ih _ L st m _ _ nx => List.rec (motive := fun _ => List zO) zfail (fun r rest _ => zrf r fun _ => cond (Nat.ble (zwt rest) 8) (ih nx L rest m) zfail) st
/-- all n ints of one array into another of that size -/
noncomputable def z_copy1 (ih : zK) (L n t : Nat) (rest : List Nat) (m : zM) (nx : Nat) (ct cf : zC) : List zO :=
  cond (Nat.beq t 0) zfail (cond (Nat.beq ct.1 100) (cond (Nat.beq cf.1 100) (cond (Nat.beq ct.2.1 n) (cond (Nat.beq cf.2.1 n) (cond (Nat.ble (zwt rest) 8)
    (hset m.2.1 t (100, n, cf.2.2) fun h1 => ih nx L rest (m.1, h1, m.2.2)) zfail) zfail) zfail) zfail) zfail)
noncomputable def z_copy2 (ih : zK) (L n j t i f : Nat) (rest : List Nat) (m : zM) (nx : Nat) : List zO :=
  cond (Nat.beq i 0) (cond (Nat.beq j 0) (zrf t fun t => zrf f fun f => cond (Nat.beq f 0) zfail (cond (Nat.beq t f) zfail (z_copy1 ih L n t rest m nx (hget m.2.1 t) (hget m.2.1 f)))) zfail) zfail
noncomputable def z_copy : zHa := fun ih _ L st m _ _ nx => ztake 5 [] st fun as rest =>
  z_copy2 ih L (zget 0 as 4) (zget 0 as 3) (zget 0 as 2) (zget 0 as 1) (zget 0 as 0) rest m nx
noncomputable def z_mm1 (ih : zK) (L x y : Nat) (r : List Nat) (m : zM) (a nx : Nat) : List zO :=
  cond (Nat.ble x 4294967295) (cond (Nat.ble y 4294967295) (cond (Nat.ble (zwt r) 8)
    (frc (cond (Nat.beq a 0) (cond (zci 2 (zb32 y) (zb32 x)) y x) (cond (zci 2 (zb32 x) (zb32 y)) y x)) fun v => ih nx L (v :: r) m) zfail) zfail) zfail
/-- the lesser (a 0), the greater of two known ints -/
noncomputable def z_mm : zHa := fun ih _ L st m a _ nx =>
  List.rec (motive := fun _ => List zO) zfail (fun y r1 _ => List.rec (motive := fun _ => List zO) zfail (fun x r _ => frc (zrs m.1 y) fun y1 => frc (zrs m.1 x) fun x1 => z_mm1 ih L x1 y1 r m a nx) r1) st
noncomputable def z_stop (oz : zK) : zHa := fun _ pc L st m _ _ _ => oz pc L st m
noncomputable def zHs (E : zE) (D : zD) (cal : zCal) (oz : zK) : List zHa :=
  [z_bad, z_load, z_getf, z_push, z_ib D, z_ald, z_icmp, z_store, z_goto, z_iinc, z_if, z_call cal E.1, z_xret, z_putf, z_ast, z_vret, z_cv, z_lcmp, z_lb D, z_ls D, z_lstore, z_alen, z_newa, z_newa, z_new E.2.1,
   z_dup, z_pop, z_mm, z_bad, z_null, z_tab E.2.2.1, z_lku E.2.2.2, z_acmp, z_oini, z_copy, z_stop oz]
noncomputable def zx (hs : List zHa) (ih : zK) (pc L : Nat) (st : List Nat) (m : zM) (e : Nat) : List zO :=
  zget z_bad hs (Nat.mod e 256) ih pc L st m (Nat.shiftRight e 88) (Nat.mod (Nat.shiftRight e 32) 4294967296) (Nat.mod (Nat.shiftRight e 8) 16777216)
/-- steps of one method, until it returns -/
noncomputable def zloop (hs : List zHa) (code : Nat) (n : Nat) : zK :=
  Nat.rec (motive := fun _ => zK) (fun _ _ _ _ => zfail) (fun _ ih pc L st m => frc (zfet code pc) fun e => zx hs ih pc L st m e) n
/-- the locals with which a method begins -/
noncomputable def zargs (as : List Nat) : Nat → Nat → Nat :=
  List.rec (motive := fun _ => Nat → Nat → Nat) (fun L _ => L) (fun v _ ih L i => frc (bset L i v) fun L => cond (Nat.beq (zkd v) 1) (ih L (Nat.add i 2)) (ih L (Nat.succ i))) as
noncomputable def zrun1 (hs : List zHa) (F : Nat) (S : zS) (as : List Nat) (h : zH) (len : Nat) (t : zMt) : List zO :=
  cond (Nat.ble (zwt as) t.2.2.2.2) (frc (zargs as t.2.1 0) fun L => zloop hs t.1 F 0 L [] (S, h, len, t.2.2.1, t.2.2.2.1)) zfail
/-- a call of the method mi, no deeper than d; of the methods om 'oc' tells -/
noncomputable def zrun (E : zE) (D : zD) (om : Nat → Bool) (oc : zCal) (oz : Nat → zK) (F d : Nat) : zCal :=
  Nat.rec (motive := fun _ => zCal) (fun _ _ _ _ _ => zfail)
    (fun _ ih mi S as h len => cond (om mi) (oc mi S as h len) (zrun1 (zHs E D ih (oz mi)) F S as h len (zmt E.1 mi))) d
def znm : Nat → Bool := fun _ => false
def zno : zCal := fun _ _ _ _ _ => zfail
def znz : Nat → zK := fun _ _ _ _ _ => zfail
