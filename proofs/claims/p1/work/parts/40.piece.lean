/-! Runs in pieces, of one method: ends by states, by a place of the code; a state told more widely -/
def zinB (outs : List zO) (l : List zO) : Bool := l.all (fun o => decide (o.1 = 1) && decide (o ∈ outs))
theorem zinB_t {outs l : List zO} (h : zinB outs l = true) : zgood (fun o => o.1 = 1 ∧ o ∈ outs) l := by
  intro o ho
  obtain ⟨h1, h2⟩ := zan (List.all_eq_true.mp h o ho)
  exact ⟨zde h1, zde h2⟩
theorem zsat_nil {ρ : Nat → Int} {S : zS} (h : zsat ρ S) : zsat ρ [] := by
  intro i
  obtain ⟨h1, h2, -, -⟩ := h i
  refine ⟨h1, h2, ?_, ?_⟩
  · show ((0 : Nat) : Int) ≤ _
    omega
  · show _ ≤ ((18446744073709551615 : Nat) : Int)
    omega
theorem zdOK_nil (ρ : Nat → Int) : zdOK ρ [] := fun _ h => by cases h
/-- a state of which less is told -/
theorem zgo_gen {l : Launch} {ρ : Nat → Int} {dR mi : Nat} {P : zO → Prop} {S S2 : zS} {L L2 pc : Nat} {st : List Nat} {M2 : zH × Nat × Nat × Nat} (h : zGo l ρ dR mi P (pc, L2, st, (S2, M2))) (hS : zsat ρ S → zsat ρ S2)
    (hL : zsat ρ S → ∀ i, i < (zrr mi).1.2.2.1 → zkd (bget L2 i) ≤ 2 → zkd (bget L i) ≤ 2 ∧ ∀ α, zv ρ α (bget L i) = zv ρ α (bget L2 i)) : zGo l ρ dR mi P (pc, L, st, (S, M2)) := by
  intro D b0 B0 p e s m args below meth c Q hc H locs cells slots ls hI hl
  have hs : zsat ρ S := hI.1
  refine h D b0 B0 p e s m args below meth c Q hc H locs cells slots ls ⟨hS hs, hI.2⟩ (zhas_sub hl fun q hq => ?_)
  obtain ⟨q1, q2, q3⟩ := zLs_mem.mp hq
  obtain ⟨g1, g2⟩ := hL hs q.1 q1 q2
  exact zLs_mem.mpr ⟨q1, g1, by rw [q3]; exact (g2 _).symm⟩
/-- the places of the locals, one by one -/
def zgc2 (nL L L2 : Nat) (ps : List (Nat × Nat)) : Bool := (List.range nL).all fun i => decide (3 ≤ zkd (bget L2 i)) || (decide (zkd (bget L i) ≤ 2) && (decide (bget L i = bget L2 i) || decide ((bget L i, bget L2 i) ∈ ps)))
theorem zgc2_t {ρ : Nat → Int} {nL L L2 : Nat} {ps : List (Nat × Nat)} (h : zgc2 nL L L2 ps = true) (hp : ∀ q ∈ ps, ∀ α, zv ρ α q.1 = zv ρ α q.2) : ∀ i, i < nL → zkd (bget L2 i) ≤ 2 → zkd (bget L i) ≤ 2 ∧ ∀ α, zv ρ α (bget L i) = zv ρ α (bget L2 i) := by
  intro i hi h2
  have h := List.all_eq_true.mp h i (List.mem_range.mpr hi)
  rw [Bool.or_eq_true] at h
  rcases h with h | h
  · have := zde h
    omega
  · obtain ⟨g1, g2⟩ := zan h
    refine ⟨zde g1, fun α => ?_⟩
    rw [Bool.or_eq_true] at g2
    rcases g2 with g2 | g2
    · rw [zde g2]
    · exact hp _ (zde g2) α
/-- one round of a loop: from its head, until the head again -/
theorem zgo_iter (l : Launch) {ρ : Nat → Int} {mi dR k d : Nat} (hmi : mi < 259) (hdc : k + d ≤ dR) {P : zO → Prop} (h0 : ∀ o, P o → o.1 = 1) {Df : zD} (hDf : zdOK ρ Df) {om : Nat → Bool} {oc : zCal} (hoc : zoc l ρ k om oc) {F code2 n2 : Nat}
    (hcode : ∀ pc, zPcOK zEe znl (fun a => (zrr a).1) 259 (zrr mi).1.1.cls (zrr mi).1.1.name (zrr mi).1.2.1 (zrr mi).1.2.2.1 (zrr mi).1.2.2.2 pc (zfet code2 pc)) {qs : List (Nat × Nat × List Nat × zM)} (hq : ∀ q ∈ qs, zGo l ρ dR mi P q)
    {n pc L : Nat} {st : List Nat} {M : zM} (hg : zgood P (zloopK (zHs zEe Df (zrun zEe Df om oc znz F d) (znz 0)) (zmt zEe.1 mi).1 (zloopK (zHs zEe Df (zrun zEe Df om oc znz F d) (zKq qs)) code2 (fun _ _ _ _ => zfail) n2) n pc L st M)) : zGo l ρ dR mi P (pc, L, st, M) := by
  refine zgo_chunk l hmi hdc h0 hDf hoc (fun pc L st M hz => ?_) hg
  intro D b0 B0 p e s m args below meth c Q hc
  obtain ⟨hx, hb, hml, hown, hyn, hw, hZ, hret⟩ := id hc
  exact zloopK_ok (E := zEe) (MI := fun a => (zrr a).1) (N := 259) (Df := Df) (cal := zrun zEe Df om oc znz F d) (oz := zKq qs) (code := code2) (d := k + d) (K := fun _ _ _ _ => zfail)
    hx hb hml h0 hown hyn hw zlw_nst hZ ⟨by show k + d + 1 ≤ dR + 1; omega, by show 200 * (k + d + 1) ≤ 200 * (dR + 1); omega, Nat.le_refl _, Nat.le_refl _⟩ hret hDf (fun pc L st M hz => zKq_t h0 hq pc L st M hz D b0 B0 p e s m args below meth c Q hc)
    (fun a S as h len g0 g1 g2 g3 => zmetk l hDf hoc d a S as h len g0 g1 g2 g3 D b0 B0) (fun pc L st M hz => (zgood_no h0 hz).elim) hcode n2 pc L st M hz
/-- the law's run, some methods told apart -/
theorem zlaw_runO {S S2 : zS} {Df : zD} {om : Nat → Bool} {oc : zCal} {k : Nat} (hk : k ≤ 300) (h1 : ∀ xs, zsat (zrho xs) S → zsat (zrho xs) S2 ∧ zdOK (zrho xs) Df) (hoc : ∀ l xs, zsat (zrho xs) S → zoc l (zrho xs) k om oc)
    (h : zall (zloop (zHs zEe Df (zrun zEe Df om oc znz (nat_lit 1000000) (nat_lit 40)) (znz 0)) zc0 (nat_lit 1000000) 0 zL0 [] (S2, zH0 5, 1, nat_lit 600000, nat_lit 7302250)) = true) : zLaw S :=
  fun p e s m below meth c l b xs C0 hS => zlaw_gen (k := k) (d := 40) l (Nat.le_refl 5) C0 (zrho_s xs) (h1 xs hS).2 (by show k + 40 ≤ 400; omega) (hoc l xs hS) (h1 xs hS).1 (zall_t _ h)
/-- a call told by what it is called with: it gives v, the cells are h2 then -/
def zoc1 (mi0 : Nat) (as0 : List Nat) (h0 : zH) (len0 v : Nat) (h2 : zH) (len2 : Nat) : zCal := fun mi S as h len => cond (decide (mi = mi0 ∧ as = as0 ∧ h = h0 ∧ len = len0)) [(1, v, S, h2, len2)] zfail
theorem zoc1_t {l : Launch} {ρ : Nat → Int} {k mi0 : Nat} {as0 : List Nat} {h0 : zH} {len0 v : Nat} {h2 : zH} {len2 : Nat} (hm : ∀ d S, zsat ρ S → zMet l ρ (k + d + 1) mi0 as0 h0 len0 [(1, v, S, h2, len2)]) : zoc l ρ k (fun mi => Nat.beq mi mi0) (zoc1 mi0 as0 h0 len0 v h2 len2) := by
  intro d mi S as h len hmi hom hS has hg
  unfold zoc1 at hg ⊢
  by_cases g : mi = mi0 ∧ as = as0 ∧ h = h0 ∧ len = len0
  · rw [decide_eq_true g, cond_true]
    obtain ⟨rfl, rfl, rfl, rfl⟩ := g
    exact hm d S hS
  · rw [decide_eq_false g] at hg
    exact (zgood_no (fun _ q => q) hg).elim
theorem zoc_or {l : Launch} {ρ : Nat → Int} {k : Nat} {om1 om2 : Nat → Bool} {oc1 oc2 : zCal} (h1 : zoc l ρ k om1 oc1) (h2 : zoc l ρ k om2 oc2) : zoc l ρ k (fun mi => or (om1 mi) (om2 mi)) (fun mi S as h len => cond (om1 mi) (oc1 mi S as h len) (oc2 mi S as h len)) := by
  intro d mi S as h len hmi hom hS has hg
  cases g : om1 mi with
  | true =>
    simp only [g, cond_true] at hg ⊢
    exact h1 d mi S as h len hmi g hS has hg
  | false =>
    simp only [g, cond_false, Bool.false_or] at hg hom ⊢
    exact h2 d mi S as h len hmi hom hS has hg
