/-! THE CLAIM OUT OF ONE WALK OF THE LAW'S BODY. Your part is whole_start (and what it stands on); all else here is the same for every law, but numbers. -/
def R_law : String := "BentScopeLaw"
def lw_P (b : Addr) (xs : List Int32) (args : Array Value) (s : State) : Prop := args = #[.ref b] ∧ s.IntsAt b xs ∧ xs.length ≤ 260 ∧ (Jvm.Cond.and given_1 narrow_1).before args s = true
/-- what a walk over the start with the record d0 says of its end, said of the start itself -/
theorem lw_closed {s t : State} {o : Outcome} {d0 : Drawn} {L : List Loc} {k n : Nat} (hd0 : s.drawn.sameBut d0 lw_cs) (hv : ∃ v, o = .returned v) (hW : (s.setDrawn d0).WarmedH t.vm) (hs : (s.setDrawn d0).sameButNew ({ t with vm := s.vm } : State) L k n) : State.butDraws s t lw_cs (fun t1 => Framed s o t1 L k n) := by
  have h2 : t.drawn = d0 := congrArg State.drawn hs.1
  refine ⟨⟨hv, hW, State.sameButNew.setDrawn hs s.drawn⟩, ?_, by decide⟩
  rw [h2]
  exact hd0
def lw_Q (_ : Array Value) (s : State) (o : Outcome) (t : State) : Prop := o = .returned (some (.int 1)) ∧ State.butDraws s t lw_cs (fun t1 => Framed s o t1 [] 600130 7301080)
def lw_Z (below : List Frame) (a : Array Value) (s : State) : State → Prop := fun t => ∃ o, t.status = .running ∧ Ended t below o ∧ lw_Q a s o t
/-- the law's own end, with 1 on the stack, nothing written that was there before, its room as the claim has it; d0: the record of draws at this point (at the entry s.drawn: begin with 'refine W.base ?_' and 'have hd0 := Drawn.sameBut.refl s.drawn lw_cs') -/
theorem lw_ret {p : Program} {l : Launch} {e : Env} {s : State} {m : MethodId} {below : List Frame} {meth : Method} {c : Code} {b : Nat} {d0 : Drawn} (hd0 : s.drawn.sameBut d0 lw_cs) (hx : p.tables.exec = Jvm.exec) (hb : c.code = code) (hr : meth.sig.returnType = ret) (hlocks : meth.locks = false) {pc : Nat} {H : Heap} {ls : Array Slot} (hdg : decode code pc = .ok (.ireturn, 1)) : W p l e room_1 (s.setDrawn d0) m #[Value.ref b] below meth c H [] 600130 7301080 (lw_Z below #[Value.ref b] s) (F0 m pc ls [.int 1]) := by
  intro T hT X
  obtain ⟨fs, hret, hrun, hended, hW, hframe⟩ := X.leave (v := some (.int 1)) (hlocks := hlocks) (fun h => by rw [hr] at h; cases h)
  have hmeth' : T.vm.method? m = some meth := X.method'
  refine ⟨T.setFrames fs, ?_, .returned (some (.int 1)), hrun, hended, rfl, lw_closed hd0 ⟨_, rfl⟩ hW hframe⟩
  jvm_step X.here [X.here.top, hx, hb, hdg, hmeth', hr, ret, narrow_b1]
  (try refine ⟨rfl, ?_⟩); (try refine ⟨rfl, ?_⟩)
  first | (intro acts; rw [hret _ acts rfl rfl rfl]) | rw [hret _ _ rfl rfl rfl]
  exact Steps.refl _
/-- what holds at the law's entry: the machine, the code, the tables' words (any of lw_tbl by 'hts w (by decide +kernel)'), the script of L ints xs at the cell b, what the Statement gives of the start (any of its parts by flat_of_before) -/
def lw_At (p : Program) (s : State) (m : MethodId) (meth : Method) (c : Code) (b L : Nat) (xs : Nat → Int32) : Prop :=
  p.tables.exec = Jvm.exec ∧ c.code = code ∧ meth.sig.returnType = ret ∧ c.maxLocals = 4 ∧ s.vm.findClass R_law = some m.cls ∧ (∀ w ∈ lw_tbl, w.before #[Value.ref b] s = true) ∧ va_X b L xs s s.heap ∧ b < s.heap.size ∧ meth.locks = false ∧ (Jvm.Cond.and given_1 narrow_1).before #[Value.ref b] s = true
/-! the world of a new object -/
def W7 (g : Nat → ClassId) (b : Nat) (n tr r t : Nat → Nat) (qs : Nat → Nat → Nat) : va_W := [(b, .inr (7, [.ref (n 0), .ref (tr 0), .ref (r 0), .int 0, .ref (r 1), .ref (r 3), .ref (t 0)])), ((n 0), .inr (5, [.ref (n 1), .ref (n 2), .ref (n 3), .ref (n 8), .ref (n 12), .ref (n 13), .int (pI 16), .int (pI 19), .ref (n 14)])), ((n 1), .inl (g 0, 5, .inl (pg pI 0 5))), ((n 2), .inl (g 0, 8, .inl (pg pI 5 8))), ((n 3), .inr (4, [.int 0, .ref (n 4), .ref (n 5), .ref (n 6), .ref (n 7)])), ((n 4), .inl (g 0, 20, .inl (p4 pI 23 20))), ((n 5), .inl (g 0, 20, .inl (p4 pI 24 20))), ((n 6), .inl (g 0, 20, .inl (p4 pI 25 20))), ((n 7), .inl (g 0, 20, .inl (p4 pI 26 20))), ((n 8), .inr (3, [.ref (n 9), .ref (n 10), .ref (n 11)])), ((n 9), .inl (g 0, 24, .inl (pg pI 103 24))), ((n 10), .inl (g 1, 24, .inr (.inr (.inr (.inl (d2 zD 0 24)))))), ((n 11), .inl (g 1, 24, .inr (.inr (.inr (.inl (d2 zD 1 24)))))), ((n 12), .inr (1, [.int (pI 13), .int (pI 14), .int (pI 15)])), ((n 13), .inr (0, [.int (pI 21), .int (zI 0), .int 0, .int (zI 2), .int (zI 3), .double (zD 50), .double (zD 51), .double (zD 48), .double (zD 49), .int (pI 22)])), ((n 14), .inr (0, [.int (jI 0), .int (jI 1), .int (jI 2), .int (jI 3), .int (jI 4), .double (zD 0), .double (zD 1), .double (zD 2), .double (zD 3), .int (jI 5)])), ((tr 0), .inr (5, [.ref (tr 1), .ref (tr 2), .ref (tr 3), .ref (tr 8), .ref (tr 12), .ref (tr 13), .int (pI 16), .int (pI 19), .ref (tr 14)])), ((tr 1), .inl (g 0, 5, .inl (pg pI 0 5))), ((tr 2), .inl (g 0, 8, .inl (pg pI 5 8))), ((tr 3), .inr (4, [.int 0, .ref (tr 4), .ref (tr 5), .ref (tr 6), .ref (tr 7)])), ((tr 4), .inl (g 0, 20, .inl (p4 pI 23 20))), ((tr 5), .inl (g 0, 20, .inl (p4 pI 24 20))), ((tr 6), .inl (g 0, 20, .inl (p4 pI 25 20))), ((tr 7), .inl (g 0, 20, .inl (p4 pI 26 20))), ((tr 8), .inr (3, [.ref (tr 9), .ref (tr 10), .ref (tr 11)])), ((tr 9), .inl (g 0, 24, .inl (pg pI 103 24))), ((tr 10), .inl (g 1, 24, .inr (.inr (.inr (.inl (d2 zD 0 24)))))), ((tr 11), .inl (g 1, 24, .inr (.inr (.inr (.inl (d2 zD 1 24)))))), ((tr 12), .inr (1, [.int (pI 13), .int (pI 14), .int (pI 15)])), ((tr 13), .inr (0, [.int (pI 21), .int (zI 0), .int 0, .int (zI 2), .int (zI 3), .double (zD 50), .double (zD 51), .double (zD 48), .double (zD 49), .int (pI 22)])), ((tr 14), .inr (0, [.int (jI 0), .int (jI 1), .int (jI 2), .int (jI 3), .int (jI 4), .double (zD 0), .double (zD 1), .double (zD 2), .double (zD 3), .int (jI 5)])), ((r 0), .inl (g 3, 4, .inr (.inr (.inr (.inr (sv4 qs)))))), ((r 1), .inr (2, [.ref (r 2), .int 0, .int 0, .int (-1), .int 0, .int 0, .int 0, .int 0])), ((r 2), .inl (g 0, 100, .inl zI)), ((r 3), .inr (0, [.int (jI 0), .int (jI 1), .int (jI 2), .int (jI 3), .int (jI 4), .double (zD 0), .double (zD 1), .double (zD 2), .double (zD 3), .int (jI 5)])), ((t 0), .inr (6, [.ref (t 1), .ref (t 2), .ref (t 3), .ref (t 4), .int 0, .int (-1)])), ((t 1), .inl (g 2, 5, .inr (.inr (.inr (.inr (pl5 t)))))), ((t 2), .inl (g 0, 5, .inl zI)), ((t 3), .inl (g 0, 5, .inl zI)), ((t 4), .inr (1, [.int 0, .int 2700, .int 0])), ((t 5), .inr (0, [.int ((jjI 0) 0), .int ((jjI 0) 1), .int ((jjI 0) 2), .int ((jjI 0) 3), .int ((jjI 0) 4), .double ((ddI 0) 0), .double ((ddI 0) 1), .double ((ddI 0) 2), .double ((ddI 0) 3), .int ((jjI 0) 5)])), ((t 6), .inr (0, [.int ((jjI 1) 0), .int ((jjI 1) 1), .int ((jjI 1) 2), .int ((jjI 1) 3), .int ((jjI 1) 4), .double ((ddI 1) 0), .double ((ddI 1) 1), .double ((ddI 1) 2), .double ((ddI 1) 3), .int ((jjI 1) 5)])), ((t 7), .inr (0, [.int ((jjI 2) 0), .int ((jjI 2) 1), .int ((jjI 2) 2), .int ((jjI 2) 3), .int ((jjI 2) 4), .double ((ddI 2) 0), .double ((ddI 2) 1), .double ((ddI 2) 2), .double ((ddI 2) 3), .int ((jjI 2) 5)])), ((t 8), .inr (0, [.int ((jjI 3) 0), .int ((jjI 3) 1), .int ((jjI 3) 2), .int ((jjI 3) 3), .int ((jjI 3) 4), .double ((ddI 3) 0), .double ((ddI 3) 1), .double ((ddI 3) 2), .double ((ddI 3) 3), .int ((jjI 3) 5)])), ((t 9), .inr (0, [.int ((jjI 4) 0), .int ((jjI 4) 1), .int ((jjI 4) 2), .int ((jjI 4) 3), .int ((jjI 4) 4), .double ((ddI 4) 0), .double ((ddI 4) 1), .double ((ddI 4) 2), .double ((ddI 4) 3), .int ((jjI 4) 5)])), (((qs 0) 0), .inr (5, [.ref ((qs 0) 1), .ref ((qs 0) 2), .ref ((qs 0) 3), .ref ((qs 0) 8), .ref ((qs 0) 12), .ref ((qs 0) 13), .int (pI 16), .int (pI 19), .ref ((qs 0) 14)])), (((qs 0) 1), .inl (g 0, 5, .inl (pg pI 0 5))), (((qs 0) 2), .inl (g 0, 8, .inl (pg pI 5 8))), (((qs 0) 3), .inr (4, [.int 0, .ref ((qs 0) 4), .ref ((qs 0) 5), .ref ((qs 0) 6), .ref ((qs 0) 7)])), (((qs 0) 4), .inl (g 0, 20, .inl (p4 pI 23 20))), (((qs 0) 5), .inl (g 0, 20, .inl (p4 pI 24 20))), (((qs 0) 6), .inl (g 0, 20, .inl (p4 pI 25 20))), (((qs 0) 7), .inl (g 0, 20, .inl (p4 pI 26 20))), (((qs 0) 8), .inr (3, [.ref ((qs 0) 9), .ref ((qs 0) 10), .ref ((qs 0) 11)])), (((qs 0) 9), .inl (g 0, 24, .inl (pg pI 103 24))), (((qs 0) 10), .inl (g 1, 24, .inr (.inr (.inr (.inl (d2 zD 0 24)))))), (((qs 0) 11), .inl (g 1, 24, .inr (.inr (.inr (.inl (d2 zD 1 24)))))), (((qs 0) 12), .inr (1, [.int (pI 13), .int (pI 14), .int (pI 15)])), (((qs 0) 13), .inr (0, [.int (pI 21), .int (zI 0), .int 0, .int (zI 2), .int (zI 3), .double (zD 50), .double (zD 51), .double (zD 48), .double (zD 49), .int (pI 22)])), (((qs 0) 14), .inr (0, [.int (jI 0), .int (jI 1), .int (jI 2), .int (jI 3), .int (jI 4), .double (zD 0), .double (zD 1), .double (zD 2), .double (zD 3), .int (jI 5)])), (((qs 1) 0), .inr (5, [.ref ((qs 1) 1), .ref ((qs 1) 2), .ref ((qs 1) 3), .ref ((qs 1) 8), .ref ((qs 1) 12), .ref ((qs 1) 13), .int (pI 16), .int (pI 19), .ref ((qs 1) 14)])), (((qs 1) 1), .inl (g 0, 5, .inl (pg pI 0 5))), (((qs 1) 2), .inl (g 0, 8, .inl (pg pI 5 8))), (((qs 1) 3), .inr (4, [.int 0, .ref ((qs 1) 4), .ref ((qs 1) 5), .ref ((qs 1) 6), .ref ((qs 1) 7)])), (((qs 1) 4), .inl (g 0, 20, .inl (p4 pI 23 20))), (((qs 1) 5), .inl (g 0, 20, .inl (p4 pI 24 20))), (((qs 1) 6), .inl (g 0, 20, .inl (p4 pI 25 20))), (((qs 1) 7), .inl (g 0, 20, .inl (p4 pI 26 20))), (((qs 1) 8), .inr (3, [.ref ((qs 1) 9), .ref ((qs 1) 10), .ref ((qs 1) 11)])), (((qs 1) 9), .inl (g 0, 24, .inl (pg pI 103 24))), (((qs 1) 10), .inl (g 1, 24, .inr (.inr (.inr (.inl (d2 zD 0 24)))))), (((qs 1) 11), .inl (g 1, 24, .inr (.inr (.inr (.inl (d2 zD 1 24)))))), (((qs 1) 12), .inr (1, [.int (pI 13), .int (pI 14), .int (pI 15)])), (((qs 1) 13), .inr (0, [.int (pI 21), .int (zI 0), .int 0, .int (zI 2), .int (zI 3), .double (zD 50), .double (zD 51), .double (zD 48), .double (zD 49), .int (pI 22)])), (((qs 1) 14), .inr (0, [.int (jI 0), .int (jI 1), .int (jI 2), .int (jI 3), .int (jI 4), .double (zD 0), .double (zD 1), .double (zD 2), .double (zD 3), .int (jI 5)])), (((qs 2) 0), .inr (5, [.ref ((qs 2) 1), .ref ((qs 2) 2), .ref ((qs 2) 3), .ref ((qs 2) 8), .ref ((qs 2) 12), .ref ((qs 2) 13), .int (pI 16), .int (pI 19), .ref ((qs 2) 14)])), (((qs 2) 1), .inl (g 0, 5, .inl (pg pI 0 5))), (((qs 2) 2), .inl (g 0, 8, .inl (pg pI 5 8))), (((qs 2) 3), .inr (4, [.int 0, .ref ((qs 2) 4), .ref ((qs 2) 5), .ref ((qs 2) 6), .ref ((qs 2) 7)])), (((qs 2) 4), .inl (g 0, 20, .inl (p4 pI 23 20))), (((qs 2) 5), .inl (g 0, 20, .inl (p4 pI 24 20))), (((qs 2) 6), .inl (g 0, 20, .inl (p4 pI 25 20))), (((qs 2) 7), .inl (g 0, 20, .inl (p4 pI 26 20))), (((qs 2) 8), .inr (3, [.ref ((qs 2) 9), .ref ((qs 2) 10), .ref ((qs 2) 11)])), (((qs 2) 9), .inl (g 0, 24, .inl (pg pI 103 24))), (((qs 2) 10), .inl (g 1, 24, .inr (.inr (.inr (.inl (d2 zD 0 24)))))), (((qs 2) 11), .inl (g 1, 24, .inr (.inr (.inr (.inl (d2 zD 1 24)))))), (((qs 2) 12), .inr (1, [.int (pI 13), .int (pI 14), .int (pI 15)])), (((qs 2) 13), .inr (0, [.int (pI 21), .int (zI 0), .int 0, .int (zI 2), .int (zI 3), .double (zD 50), .double (zD 51), .double (zD 48), .double (zD 49), .int (pI 22)])), (((qs 2) 14), .inr (0, [.int (jI 0), .int (jI 1), .int (jI 2), .int (jI 3), .int (jI 4), .double (zD 0), .double (zD 1), .double (zD 2), .double (zD 3), .int (jI 5)])), (((qs 3) 0), .inr (5, [.ref ((qs 3) 1), .ref ((qs 3) 2), .ref ((qs 3) 3), .ref ((qs 3) 8), .ref ((qs 3) 12), .ref ((qs 3) 13), .int (pI 16), .int (pI 19), .ref ((qs 3) 14)])), (((qs 3) 1), .inl (g 0, 5, .inl (pg pI 0 5))), (((qs 3) 2), .inl (g 0, 8, .inl (pg pI 5 8))), (((qs 3) 3), .inr (4, [.int 0, .ref ((qs 3) 4), .ref ((qs 3) 5), .ref ((qs 3) 6), .ref ((qs 3) 7)])), (((qs 3) 4), .inl (g 0, 20, .inl (p4 pI 23 20))), (((qs 3) 5), .inl (g 0, 20, .inl (p4 pI 24 20))), (((qs 3) 6), .inl (g 0, 20, .inl (p4 pI 25 20))), (((qs 3) 7), .inl (g 0, 20, .inl (p4 pI 26 20))), (((qs 3) 8), .inr (3, [.ref ((qs 3) 9), .ref ((qs 3) 10), .ref ((qs 3) 11)])), (((qs 3) 9), .inl (g 0, 24, .inl (pg pI 103 24))), (((qs 3) 10), .inl (g 1, 24, .inr (.inr (.inr (.inl (d2 zD 0 24)))))), (((qs 3) 11), .inl (g 1, 24, .inr (.inr (.inr (.inl (d2 zD 1 24)))))), (((qs 3) 12), .inr (1, [.int (pI 13), .int (pI 14), .int (pI 15)])), (((qs 3) 13), .inr (0, [.int (pI 21), .int (zI 0), .int 0, .int (zI 2), .int (zI 3), .double (zD 50), .double (zD 51), .double (zD 48), .double (zD 49), .int (pI 22)])), (((qs 3) 14), .inr (0, [.int (jI 0), .int (jI 1), .int (jI 2), .int (jI 3), .int (jI 4), .double (zD 0), .double (zD 1), .double (zD 2), .double (zD 3), .int (jI 5)]))]
theorem st_arr {args : Array Value} {s : State} {ty : FieldType} (h : (Cond.arrayClass ty).before args s = true) : ∃ cA : ClassId, ArrOfT s cA ty ∧ s.vm.findClass ("[" ++ ty.toString) = some cA := by
  obtain ⟨cA, k, comp, h1, h2, h3⟩ := Cond.arrayClass_spec h
  exact ⟨cA, fun n z => ⟨fun k h => (by cases h), k, h2, comp, h3⟩, h1⟩
theorem st_arrO {s : State} {C : String} (h : va_AO C s) : ∃ cA : ClassId, ArrOfT s cA (.object C) ∧ va_RA s cA (.object C) := by
  obtain ⟨comp, c, k, h1, h2, h3, h4, h5⟩ := Cond.arrayOver_spec h
  exact ⟨c, fun n z => ⟨fun k h => (by cases h), k, h3, comp, h4⟩, k, comp, h3, h4, h1, h5⟩
theorem nest_in : ∀ w ∈ nestL, w ∈ lw_tbl := by decide +kernel
theorem xB_in : ∀ w ∈ xB, w ∈ lw_tbl := by decide +kernel
theorem ao_in : Cond.arrayOver (.object RX0) ∈ lw_tbl ∧ Cond.arrayOver (.object RX5) ∈ lw_tbl := by decide +kernel
theorem zs_in : (Cond.laysStatic "BentScope" "FIRST_SETTINGS" "[I" ∈ lw_tbl ∧ Cond.laysStatic "BentScope" "LOWEST_SETTINGS" "[I" ∈ lw_tbl ∧ Cond.laysStatic "BentScope" "HIGHEST_SETTINGS" "[I" ∈ lw_tbl) ∧ (Cond.laysStatic Bundle.tN "UNASSIGNED_STACK" Bundle.steD ∈ lw_tbl ∧ Cond.laysStatic Bundle.tN "SUPPRESSED_SENTINEL" Bundle.listD ∈ lw_tbl) ∧ Cond.initialized "BentScope" ∈ lw_tbl ∧ Cond.initialized Bundle.tN ∈ lw_tbl := by decide +kernel
theorem xs_in : ∀ q ∈ xS, Cond.stringRef RX7 q.1 q.2 ∈ lw_tbl := by decide +kernel
theorem xs_ex : ∀ q ∈ xS, Cond.exactly (.string RX7 q.1) "java/lang/String" ∈ flatC (Jvm.Cond.and given_1 narrow_1) := by decide +kernel
theorem nc_in : ∀ q ∈ nC, Cond.not (.castable q.1 q.2) ∈ flatC (Jvm.Cond.and given_1 narrow_1) := by decide +kernel
theorem zq_in : Cond.isRef (.static Bundle.tN "UNASSIGNED_STACK" Bundle.steD) ∈ flatC (Jvm.Cond.and given_1 narrow_1) ∧ Cond.isRef (.static Bundle.tN "SUPPRESSED_SENTINEL" Bundle.listD) ∈ flatC (Jvm.Cond.and given_1 narrow_1) := by decide +kernel
def stW (n : String) (f : Nat → Int32) : Prop := Cond.arrayOf (.static "BentScope" n "[I") .int ∈ flatC (Jvm.Cond.and given_1 narrow_1) ∧ Cond.eq (.length (.static "BentScope" n "[I")) (.int (Int32.ofNat 5)) ∈ flatC (Jvm.Cond.and given_1 narrow_1) ∧ ∀ j, j < 5 → Cond.eq (.elem (.static "BentScope" n "[I") (.int (Int32.ofNat j))) (.int (f j)) ∈ flatC (Jvm.Cond.and given_1 narrow_1)
theorem st_1 : stW "FIRST_SETTINGS" sf5 := by unfold stW; decide +kernel
theorem st_2 : stW "LOWEST_SETTINGS" lo5 := by unfold stW; decide +kernel
theorem st_3 : stW "HIGHEST_SETTINGS" hi5 := by unfold stW; decide +kernel
theorem st_Z {args : Array Value} {s : State} {A : Nat → Prop} {n : String} {f : Nat → Int32} (hN : ∀ w ∈ flatC (Jvm.Cond.and given_1 narrow_1), w.before args s = true) (hl : (Cond.laysStatic "BentScope" n "[I").before args s = true) (hi : (Cond.initialized "BentScope").before args s = true) (h : stW n f) (hA : ∀ a : Nat, a < s.heap.size → ¬ A a) : ∃ t : Nat, va_Z "BentScope" n "[I" (.ref t) A s s.heap ∧ va_T .int t 5 (fun j => .int (f j)) A s s.heap := by
  obtain ⟨h1, h2, h3⟩ := h
  obtain ⟨t, e, T⟩ := va_Tof (f := fun j => .int (f j)) (A := A) (N := 5) (by decide) (hN _ h1) (va_eqt (hN _ h2)) (fun j hj => va_eqt (hN _ (h3 j hj))) hA
  exact ⟨t, va_Zof hl hi e hA, T⟩
theorem lx_0 : LX 0 0 0 0 pI zD (fun _ => pI) (fun _ => zD) (fun _ => 0) (fun _ => 0) :=
  ⟨by decide, kj_0, fun h => absurd (by decide +kernel) h, ⟨fun _ _ => Or.inl (show pI 22 = 0 by decide +kernel), fun i hi => absurd hi (Nat.not_lt_zero i)⟩⟩
theorem st_D {s : State} {args : Array Value} (h : ∀ w ∈ WA, w.before args s = true) : ∃ D : va_G, ∀ (k : Nat) (q : vw_C), vwCl[k]? = some q → u_Kn s q.1 q.2.1 q.2.2 (D.1 k) (D.2 k) := by
  obtain ⟨c0, i0, K0⟩ := u_known (C := RX0) (T := TX0) (N := 10) (n := 10) h inX0 (h _ wm_100)
  obtain ⟨c1, i1, K1⟩ := u_known (C := RX1) (T := TX1) (N := 3) (n := 3) h inX1 (h _ wm_81)
  obtain ⟨c2, i2, K2⟩ := u_known (C := RX2) (T := TX2) (N := 8) (n := 8) h inX2 (h _ wm_201)
  obtain ⟨c3, i3, K3⟩ := u_known (C := RX3) (T := TX3) (N := 3) (n := 3) h inX3 (h _ wm_63)
  obtain ⟨c4, i4, K4⟩ := u_known (C := RX4) (T := TX4) (N := 5) (n := 5) h inX4 (h _ wm_33)
  obtain ⟨c5, i5, K5⟩ := u_known (C := RX5) (T := TX5) (N := 9) (n := 9) h inX5 (h _ wm_27)
  obtain ⟨c6, i6, K6⟩ := u_known (C := RX6) (T := TX6) (N := 6) (n := 6) h inX6 (h _ wm_234)
  obtain ⟨c7, i7, K7⟩ := u_known (C := RX7) (T := TX7) (N := 7) (n := 7) h inX7 (h _ wm_19)
  refine ⟨(fun k => if k = 0 then c0 else if k = 1 then c1 else if k = 2 then c2 else if k = 3 then c3 else if k = 4 then c4 else if k = 5 then c5 else if k = 6 then c6 else c7, fun k => if k = 0 then i0 else if k = 1 then i1 else if k = 2 then i2 else if k = 3 then i3 else if k = 4 then i4 else if k = 5 then i5 else if k = 6 then i6 else i7), fun k q hq => ?_⟩
  match k, hq with
  | 0, hq => cases hq; exact K0
  | 1, hq => cases hq; exact K1
  | 2, hq => cases hq; exact K2
  | 3, hq => cases hq; exact K3
  | 4, hq => cases hq; exact K4
  | 5, hq => cases hq; exact K5
  | 6, hq => cases hq; exact K6
  | 7, hq => cases hq; exact K7
  | k + 8, hq => simp [vwCl] at hq
theorem st_g {s : State} {args : Array Value} (h : ∀ w ∈ WA, w.before args s = true) (hO : va_AO RX0 s ∧ va_AO RX5 s) : ∃ g : Nat → ClassId, ∀ (k : Nat) (q : ClassId × FieldType), (tyL g)[k]? = some q → ArrOfT s q.1 q.2 ∧ va_RA s q.1 q.2 := by
  obtain ⟨c0, a0, b0⟩ := st_arr (h _ wm_61)
  obtain ⟨c1, a1, b1⟩ := st_arr (h _ wm_79)
  obtain ⟨c2, a2, b2⟩ := st_arrO hO.1
  obtain ⟨c3, a3, b3⟩ := st_arrO hO.2
  refine ⟨fun k => if k = 0 then c0 else if k = 1 then c1 else if k = 2 then c2 else if k = 3 then c3 else c0, fun k q hq => ?_⟩
  match k, hq with
  | 0, hq => cases hq; exact ⟨a0, b0⟩
  | 1, hq => cases hq; exact ⟨a1, b1⟩
  | 2, hq => cases hq; exact ⟨a2, b2⟩
  | 3, hq => cases hq; exact ⟨a3, b3⟩
  | 4, hq => cases hq; exact ⟨a0, b0⟩
  | k + 5, hq => simp [tyL] at hq
set_option maxHeartbeats 9000000 in
set_option maxRecDepth 100000 in
theorem st_pm {g : Nat → ClassId} {b7 : Nat} {n tr r t : Nat → Nat} {qs : Nat → Nat → Nat} : ([0, 1, 2, 3, 4, 5, 6, 7, 8, 9, 10, 11, 12, 13, 14, 15, 16, 17, 18, 19, 20, 21, 22, 23, 24, 25, 26, 27, 28, 29, 30, 31, 45, 46, 47, 48, 49, 50, 51, 52, 53, 54, 55, 56, 57, 58, 59, 60, 61, 62, 63, 64, 65, 66, 67, 68, 69, 70, 71, 72, 73, 74, 75, 76, 77, 78, 79, 80, 81, 82, 83, 84, 85, 86, 87, 88, 89, 90, 91, 92, 93, 94, 95, 96, 97, 98, 99, 100, 101, 102, 103, 104, 34, 35, 36, 37, 38, 39, 40, 41, 42, 43, 44]).map (fun i => (W7 g b7 n tr r t qs : va_W)[i]?) = (LWd g b7 (r 0) (r 1) (r 3) n tr t 0 0 0 0 0 pI pI zD zD zI jI zI jI zD zD qs (fun _ => pI) (fun _ => zD) (fun _ => zI) (fun _ => jI) (fun _ => zD) (fun _ => 0) (fun _ => 0) jI zD 0 (-1) 0 2700 0 zI zI jjI ddI).map some := rfl
set_option maxHeartbeats 9000000 in
set_option maxRecDepth 100000 in
theorem whole_start {p : Program} {e : Env} {s : State} {m : MethodId} {below : List Frame} {meth : Method} {c : Code} (l : Launch) (hflags : l.flags = flags0) {b L : Nat} {xs : Nat → Int32} (hL : L ≤ 260) (C0 : lw_At p s m meth c b L xs) : W p l e room_1 s m #[Value.ref b] below meth c s.heap [] 0 0 (lw_Z below #[Value.ref b] s) (entryFrame m ([Value.ref b] : List Value).toArray 4) := by
  obtain ⟨hx, hb, hr, hml, hown, hts, hX, hbl, hlocks, hgv⟩ := id C0
  have hl0 : l.stackTraces = false := by unfold Launch.stackTraces; rw [hflags]; decide +kernel
  have hWA : ∀ w ∈ WA, w.before #[Value.ref b] s = true := fun w hw => hts w (List.mem_filter.mp hw).1
  have hFl : ∀ w ∈ flatC (Jvm.Cond.and given_1 narrow_1), w.before #[Value.ref b] s = true := flat_of_before _ hgv
  have hA : ∀ q : Nat, s.heap.size ≤ q → (fun q : Nat => s.heap.size ≤ q) q := fun _ h => h
  have hnA : ∀ a : Nat, a < s.heap.size → ¬ (fun q : Nat => s.heap.size ≤ q) a := fun a h z => absurd h (Nat.not_lt.mpr z)
  generalize hAe : (fun q : Nat => s.heap.size ≤ q) = A at hA hnA
  have hbA : ¬ A b := hnA b hbl
  obtain ⟨D, hDk⟩ := st_D hWA
  have hO : va_AO RX0 s ∧ va_AO RX5 s := ⟨va_AO.of (hts _ ao_in.1), va_AO.of (hts _ ao_in.2)⟩
  obtain ⟨g, hgk⟩ := st_g hWA hO
  have hK : va_K D vwCl (tyL g) s := ⟨hDk, hgk⟩
  have hN : NW s := fun w hw => va_Nw.of (isNest_on (List.all_eq_true.mp nest_all w hw)) (hts w (nest_in w hw))
  have hZ : SF A s s.heap := by
    obtain ⟨t1, z1, y1⟩ := st_Z (A := A) hFl (hts _ zs_in.1.1) (hts _ zs_in.2.2.1) st_1 hnA
    obtain ⟨t2, z2, y2⟩ := st_Z (A := A) hFl (hts _ zs_in.1.2.1) (hts _ zs_in.2.2.1) st_2 hnA
    obtain ⟨t3, z3, y3⟩ := st_Z (A := A) hFl (hts _ zs_in.1.2.2) (hts _ zs_in.2.2.1) st_3 hnA
    exact ⟨t1, t2, t3, z1, y1, z2, y2, z3, y3, hO.1, hO.2⟩
  have hXE : XE A s s.heap := by
    refine ⟨fun w hw => va_Nw.of (xB_tab w hw) (hts w (xB_in w hw)), vx_Zqof (hts _ zs_in.2.1.1) (hts _ zs_in.2.2.2) (hFl _ zq_in.1) hnA, vx_Zqof (hts _ zs_in.2.1.2) (hts _ zs_in.2.2.2) (hFl _ zq_in.2) hnA, fun q hq => ?_⟩
    obtain ⟨a, c9, cA, kA, q1, -⟩ := Cond.exactly_spec (args := #[Value.ref b]) (first := s) (o := none) (s := s) (idx := []) (t := .string RX7 q.1) (cls := "java/lang/String") (hFl _ (xs_ex q hq))
    exact ⟨a, vk_R.of (hts _ (xs_in q hq)) q1⟩
  have hNC : NC s := fun q hq => va_Nc.of (hFl _ (nc_in q hq))
  have E : Ev p s m #[Value.ref b] c cL_law 4 RL D g := ⟨⟨hx, hb, hml, hown, hWA⟩, hK, hN⟩
  have hS : va_S A s.heap s.heap [] := va_S.rf
  have hP : va_P D vwCl [] s.heap := fun k q h => by simp at h
  have hD : va_D A [] := ⟨fun i j p q h => by simp at h, fun k q h => by simp at h⟩
  have hl := lv_entry ([.ref b]) (n := 4) (Nat.le_of_ble_eq_true rfl)
  rw [lg_entry_eq]
  generalize (lg_sl ([.ref b]) ++ List.replicate (4 - (lg_sl ([.ref b])).length) Slot.unset).toArray = ls at hl ⊢
  have hl : lv_has ls 4 [(0, .ref b)] := hl
  refine va_new (ci := 7) (fs := [.null, .null, .null, .int 0, .null, .null, .null]) hx hb E.1.2.2.2.2 inX7 tyX7 tyX7_ok E.1.2.2.2.1 (E.1.2.2.2.2 _ wm_18) (E.1.2.2.2.2 _ wm_19) (E.1.2.2.2.2 _ wm_1) E.2.1 hP hD hS hA rfl nfX7 (Nat.le_of_ble_eq_true rfl) (Nat.le_of_ble_eq_true rfl) dL_law_0 (fun b7 H hP hD hS => ?_)
  obtain ⟨hP, hD⟩ := g_world (w2 := [(b7, .inr (7, [.null, .null, .null, .int 0, .null, .null, .null]))]) hP hD rfl
  refine lv_dup hx hb dL_law_3 rfl ?_
  refine cs_L_127 (As := []) (rest := [.ref b7]) (b := b7) (wc := [(b7, .inr (7, [.null, .null, .null, .int 0, .null, .null, .null]))]) (wr := []) (wn := fun u => W7 g b7 u.1 u.2.1 u.2.2.1 u.2.2.2.1 u.2.2.2.2) (isC := [0]) (isR := []) (isP := [0, 1, 2, 3, 4, 5, 6, 7, 8, 9, 10, 11, 12, 13, 14, 15, 16, 17, 18, 19, 20, 21, 22, 23, 24, 25, 26, 27, 28, 29, 30, 31, 32, 33, 34, 35, 36, 37, 38, 39, 40, 41, 42, 43, 44, 45, 46, 47, 48, 49, 50, 51, 52, 53, 54, 55, 56, 57, 58, 59, 60, 61, 62, 63, 64, 65, 66, 67, 68, 69, 70, 71, 72, 73, 74, 75, 76, 77, 78, 79, 80, 81, 82, 83, 84, 85, 86, 87, 88, 89, 90, 91, 92, 93, 94, 95, 96, 97, 98, 99, 100, 101, 102, 103, 104]) E hS hA hZ hP hD ⟨rfl, rfl, rfl, rfl, by decide, fun _ => rfl, rfl⟩ (CX7_init l D g _ b7) ⟨Nat.le_of_ble_eq_true rfl, Nat.le_of_ble_eq_true rfl⟩ rfl rfl rfl hl.1 rfl (Nat.le_of_ble_eq_true rfl) ⟨Nat.le_of_ble_eq_true rfl, Nat.le_of_ble_eq_true rfl⟩ dL_law_4 (fun u H locs hw hP hD hS => ?_)
  obtain ⟨n, tr, r, t, qs⟩ := u
  obtain ⟨hP, hD⟩ := g_world (w2 := W7 g b7 n tr r t qs) hP hD rfl
  refine lv_astore_n (lv' := [(1, .ref b7), (0, .ref b)]) hx hb dL_law_7 rfl hl (by decide) rfl (fun ls hl => ?_)
  obtain ⟨hP, hD⟩ := g_perm hP hD [0, 1, 2, 3, 4, 5, 6, 7, 8, 9, 10, 11, 12, 13, 14, 15, 16, 17, 18, 19, 20, 21, 22, 23, 24, 25, 26, 27, 28, 29, 30, 31, 45, 46, 47, 48, 49, 50, 51, 52, 53, 54, 55, 56, 57, 58, 59, 60, 61, 62, 63, 64, 65, 66, 67, 68, 69, 70, 71, 72, 73, 74, 75, 76, 77, 78, 79, 80, 81, 82, 83, 84, 85, 86, 87, 88, 89, 90, 91, 92, 93, 94, 95, 96, 97, 98, 99, 100, 101, 102, 103, 104, 34, 35, 36, 37, 38, 39, 40, 41, 42, 43, 44] st_pm rfl
  have hEnd : ∀ (H : Heap) (locs : List Loc) (ls : Array Slot), va_S A s.heap H locs → W p l e room_1 s m #[Value.ref b] below meth c H locs (110 + 4 * 39) (1463 + 24 * 39) (lw_Z below #[Value.ref b] s) (F0 m 211 ls [.int 1]) := fun H locs ls hS => by
    refine va_forget (fun q hq => by have z := hS.2.2 q hq; rw [← hAe] at z; exact z) ?_
    refine W.widen (k := 600130) (n := 7301080) (Nat.le_of_ble_eq_true rfl) (Nat.le_of_ble_eq_true rfl) ?_
    refine W.base ?_
    exact lw_ret (Drawn.sameBut.refl s.drawn lw_cs) hx hb hr hlocks dL_law_211
  exact law_new hl0 hZ hXE hNC E hA hX hbl hbA hL b7 (r 0) (r 1) (r 3) n tr t (law_loop hl0 hZ hXE hNC E hA hX hbl hbA hL hEnd b7 (r 0) (r 1) (r 3) n tr t 39 0 rfl) 0 0 0 pI pI zD zD zI jI zI jI zD zD qs (fun _ => pI) (fun _ => zD) (fun _ => zI) (fun _ => jI) (fun _ => zD) (fun _ => 0) (fun _ => 0) jI zD 0 (-1) 0 2700 0 zI zI jjI ddI H _ ls lx_0 hP hD hS (lv_sub hl [0, 1] rfl)
