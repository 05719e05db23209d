/-! Objects that are made; the class's own static arrays. -/
def zI : Nat → Int32 := fun _ => 0
def zD : Nat → UInt64 := fun _ => FP.dconst0
def zQ : Nat → Option Nat := fun _ => none
def adr (x : List Nat) : Nat → Nat := fun i => x.getD i 0
/-- the new state's numbers -/
def pI : Nat → Int32 := fun i => if i = 0 then 60 else if i = 1 then 50 else if i = 2 then 10 else if i = 3 then 600 else if i = 4 then 5100 else if i = 14 then 2700 else if i = 21 then -1 else 0
def jI : Nat → Int32 := j6 (-1) 0 0 0 0 0
def sf5 : Nat → Int32 := fun i => if i = 0 then 60 else if i = 1 then 50 else if i = 2 then 10 else if i = 3 then 600 else 5100
def lo5 : Nat → Int32 := fun i => if i = 0 then 1 else if i = 1 then 1 else if i = 2 then 1 else 0
def hi5 : Nat → Int32 := fun i => if i = 0 then 600 else if i = 1 then 100 else if i = 2 then 120 else 5400
theorem pI_set : pg pI 0 5 = va_cpy sf5 zI 0 0 5 := by
  funext i
  unfold pg va_cpy
  by_cases h : i < 5
  · rw [if_pos h, if_pos (by omega)]
    have : i = 0 ∨ i = 1 ∨ i = 2 ∨ i = 3 ∨ i = 4 := by omega
    rcases this with rfl | rfl | rfl | rfl | rfl <;> rfl
  · rw [if_neg h, if_neg (by omega)]; rfl
theorem pI_bend : pg pI 5 8 = zI := by
  funext i
  unfold pg pI zI
  by_cases h : i < 8
  · rw [if_pos h, if_neg (by omega), if_neg (by omega), if_neg (by omega), if_neg (by omega), if_neg (by omega), if_neg (by omega), if_neg (by omega)]
  · rw [if_neg h]
theorem pI_les : pg pI 103 24 = zI := by
  funext i
  unfold pg pI zI
  by_cases h : i < 24
  · rw [if_pos h, if_neg (by omega), if_neg (by omega), if_neg (by omega), if_neg (by omega), if_neg (by omega), if_neg (by omega), if_neg (by omega)]
  · rw [if_neg h]
theorem pI_p4 {lo : Nat} (hl : 23 ≤ lo) : p4 pI lo 20 = zI := by
  funext i
  unfold p4 pI zI
  by_cases h : i < 20
  · rw [if_pos h, if_neg (by omega), if_neg (by omega), if_neg (by omega), if_neg (by omega), if_neg (by omega), if_neg (by omega), if_neg (by omega)]
  · rw [if_neg h]
theorem zD_d2 {k : Nat} : d2 zD k 24 = zD := by
  funext i
  unfold d2 zD
  split <;> rfl
/-- the statics and the class of an array of objects, as a method finds them -/
def SF (A : Nat → Prop) (U : State) (H : Heap) : Prop := ∃ t1 t2 t3 : Nat, va_Z "BentScope" "FIRST_SETTINGS" "[I" (.ref t1) A U H ∧ va_T .int t1 5 (fun j => .int (sf5 j)) A U H ∧ va_Z "BentScope" "LOWEST_SETTINGS" "[I" (.ref t2) A U H ∧ va_T .int t2 5 (fun j => .int (lo5 j)) A U H ∧ va_Z "BentScope" "HIGHEST_SETTINGS" "[I" (.ref t3) A U H ∧ va_T .int t3 5 (fun j => .int (hi5 j)) A U H ∧ va_AO RX0 U ∧ va_AO RX5 U
theorem SF.moved {A : Nat → Prop} {u U : State} {H : Heap} (hvm : u.vm.Alike U.vm) (h : SF A u H) : SF A U H := by
  obtain ⟨t1, t2, t3, h1, h2, h3, h4, h5, h6, h7, h8⟩ := h
  exact ⟨t1, t2, t3, h1.moved hvm, h2.moved hvm, h3.moved hvm, h4.moved hvm, h5.moved hvm, h6.moved hvm, va_AO.moved hvm h7, va_AO.moved hvm h8⟩
theorem SF.kept {A : Nat → Prop} {U : State} {H H1 : Heap} (h : SF A U H) (hq : ∀ a : Nat, a < H.size → ¬ A a → H1[a]? = H[a]?) : SF A U H1 := by
  obtain ⟨t1, t2, t3, h1, h2, h3, h4, h5, h6, h7, h8⟩ := h
  exact ⟨t1, t2, t3, h1.kept hq, h2.kept hq, h3.kept hq, h4.kept hq, h5.kept hq, h6.kept hq, h7, h8⟩
theorem SF.narrow {A B : Nat → Prop} {U : State} {H : Heap} (h : SF A U H) (hAB : ∀ q, B q → A q) : SF B U H := by
  obtain ⟨t1, t2, t3, h1, h2, h3, h4, h5, h6, h7, h8⟩ := h
  exact ⟨t1, t2, t3, h1.narrow hAB, h2.narrow hAB, h3.narrow hAB, h4.narrow hAB, h5.narrow hAB, h6.narrow hAB, h7, h8⟩
abbrev PreZ (D : va_G) (g : Nat → ClassId) (ws : va_W) (sz : Nat) (U : State) : Prop := Pre D g ws sz U ∧ SF (va_A ws sz) U U.heap
theorem pre_blindS {D : va_G} {g : Nat → ClassId} {ws : va_W} {sz : Nat} {av : List Value} : FrameBlind (va_Pc av (PreZ D g ws sz)) := fun a U f mk q => by
  obtain ⟨q0, ⟨q1, qP, qK, qD, qN⟩, qS⟩ := q
  exact ⟨q0, ⟨q1, qP, va_K.moved (u := U) (U := U.calling f mk a) (Vm.Alike.refl U.vm) qK, qD, NW.same (u := U) rfl qN⟩, SF.moved (u := U) (U := U.calling f mk a) (Vm.Alike.refl U.vm) qS⟩
theorem pre_giveS {D : va_G} {g : Nat → ClassId} {ws : va_W} {av : List Value} {A : Nat → Prop} {H : Heap} {s : State} {locs : List Loc} (hP : va_P D vwCl ws H) (hD : va_D A ws) (hK : va_K D vwCl (tyL g) s) (hN : NW s) (hZ : SF A s s.heap) (hS : va_S A s.heap H locs) (hF : ∀ q, va_A ws H.size q → A q) : ∀ U : State, U.heap = H → s.WarmedH U.vm → va_Pc av (PreZ D g ws H.size) av.toArray U :=
  fun U hU hW => ⟨rfl, ⟨by rw [hU], by rw [hU]; exact hP, va_K.moved hW.alike hK, hD.weaken (fun _ _ _ _ => trivial), hN.warm hW⟩, by rw [hU]; exact SF.moved hW.alike ((hZ.kept (fun a h1 h2 => hS.2.1 a h1 h2)).narrow hF)⟩
theorem g_metS {l : Launch} {y : MethodName} {cc : ByteArray} {maxL : Nat} {ret : Option FieldType} {rm : Room} {av : List Value} {D : va_G} {g : Nat → ClassId} {ws : va_W} {sz : Nat} {QcA : (Nat → Prop) → Array Value → State → Outcome → State → Prop} {mc ms : Nat} (hy : plainName y.cls = true) (hlen : (lg_sl av).length ≤ maxL)
    (body : ∀ (p : Program) (e : Env) (s : State) (m : MethodId) (below : List Frame) (meth : Method) (c : Code) (A : Nat → Prop) (Q : State → Prop) (ls : Array Slot), SF A s s.heap → Ev p s m av.toArray c cc maxL y.cls D g → (meth.sig.returnType = ret ∧ meth.locks = false ∧ meth.name = y.name) → va_P D vwCl ws s.heap → va_D A ws → va_S A s.heap s.heap [] → (∀ q, s.heap.size ≤ q → A q) → Q = MQ below (QcA A) av.toArray s mc ms A → lv_has ls maxL (lv_args 0 av) → W p l e rm s m av.toArray below meth c s.heap [] 0 0 Q (F0 m 0 ls [])) :
    Met l y (Cond.code y cc maxL ret :: WA) rm (va_Pc av (PreZ D g ws sz)) (QcA (va_A ws sz)) mc ms (va_A ws sz) := by
  refine Met.ofW (cc := cc) (maxL := maxL) (ret := ret) hy rfl ?_
  intro p e s m args below meth c s₁ B hml hv
  obtain ⟨rfl, ⟨hsz, hP, hK, hD0, hN⟩, hZ⟩ := hv
  have hts := atoms_spec (ws := Cond.code y cc maxL ret :: WA) B.pre
  have hown : s.vm.findClass y.cls = some m.cls := findClass_of_methodNamed B.named
  have hin : meth.name = y.name := (name_of_methodNamed B.named B.method).1
  subst hsz
  have hl := lv_entry av (n := maxL) hlen
  rw [lg_entry_eq]
  exact body p e s m below meth c (va_A ws s.heap.size) _ _ hZ ⟨⟨B.exec, B.bytes, hml, hown, fun w hw => hts w (List.mem_cons_of_mem _ hw)⟩, hK, hN⟩ ⟨B.returns, B.notSynchronized, hin⟩ hP hD0.self va_S.rf (fun q h => Or.inr h) rfl hl
section L9J
variable {p : Program} {l : Launch} {e : Env} {R : Room} {s : State} {m : MethodId} {args : Array Value} {below : List Frame} {meth : Method} {c : Code} {H : Heap} {locs : List Loc} {cells slots : Nat} {Q : State → Prop} {cc : ByteArray} {pc nL : Nat} {ls : Array Slot} {rest : List Value} {D : va_G} {g : Nat → ClassId} {A : Nat → Prop} {ws : va_W} {own : String} {H0 : Heap} {a : Nat}
theorem g_newi (E : Ev p s m args c cc nL own D g) (hP : va_P D vwCl ws H) (hD : va_D A ws) (hS : va_S A H0 H locs) (hA : ∀ q, H0.size ≤ q → A q) {n : Int32} (N' : Nat) (hn : ¬ n < 0) (hN : n.toNatClampNeg = N') (hb : N' * 4 ≤ 536870912) (hcells : cells + 1 ≤ R.cells) (hslots : slots + N' ≤ R.slots) (hdg : decode cc pc = .ok (.newarray .int, 2))
    (kk : ∀ (q : Nat) (H1 : Heap), va_P D vwCl (ws ++ [(q, .inl (g 0, N', .inl zI))]) H1 → va_D A (ws ++ [(q, .inl (g 0, N', .inl zI))]) → va_S A H0 H1 locs → W p l e R s m args below meth c H1 locs (cells + 1) (slots + N') Q (F0 m (pc + 2) ls (.ref q :: rest))) : W p l e R s m args below meth c H locs cells slots Q (F0 m pc ls (.int n :: rest)) := by
  refine va_newa E.1.1 E.1.2.1 (atype := .int) (E.1.2.2.2.2 _ wm_61) rfl E.2.1 hP hD hS hA (a0 := (N', .inl zI)) (fun cA => rfl) hn hN hb hcells hslots hdg (fun q cA H1 k1 k2 k3 k4 => ?_)
  have h1 : s.vm.findClass ("[" ++ FieldType.int.toString) = some cA := (k1.2 5 _ rfl).2
  have h2 : s.vm.findClass ("[" ++ FieldType.int.toString) = some (g 0) := (k1.2 0 _ rfl).2
  obtain rfl : g 0 = cA := Option.some.inj (h2.symm.trans h1)
  exact kk q H1 k2 k3 k4
theorem g_newd (E : Ev p s m args c cc nL own D g) (hP : va_P D vwCl ws H) (hD : va_D A ws) (hS : va_S A H0 H locs) (hA : ∀ q, H0.size ≤ q → A q) {n : Int32} (N' : Nat) (hn : ¬ n < 0) (hN : n.toNatClampNeg = N') (hb : N' * 8 ≤ 536870912) (hcells : cells + 1 ≤ R.cells) (hslots : slots + N' ≤ R.slots) (hdg : decode cc pc = .ok (.newarray .double, 2))
    (kk : ∀ (q : Nat) (H1 : Heap), va_P D vwCl (ws ++ [(q, .inl (g 1, N', .inr (.inr (.inr (.inl zD)))))]) H1 → va_D A (ws ++ [(q, .inl (g 1, N', .inr (.inr (.inr (.inl zD)))))]) → va_S A H0 H1 locs → W p l e R s m args below meth c H1 locs (cells + 1) (slots + N') Q (F0 m (pc + 2) ls (.ref q :: rest))) : W p l e R s m args below meth c H locs cells slots Q (F0 m pc ls (.int n :: rest)) := by
  refine va_newa E.1.1 E.1.2.1 (atype := .double) (E.1.2.2.2.2 _ wm_79) rfl E.2.1 hP hD hS hA (a0 := (N', .inr (.inr (.inr (.inl zD))))) (fun cA => rfl) hn hN hb hcells hslots hdg (fun q cA H1 k1 k2 k3 k4 => ?_)
  have h1 : s.vm.findClass ("[" ++ FieldType.double.toString) = some cA := (k1.2 5 _ rfl).2
  have h2 : s.vm.findClass ("[" ++ FieldType.double.toString) = some (g 1) := (k1.2 1 _ rfl).2
  obtain rfl : g 1 = cA := Option.some.inj (h2.symm.trans h1)
  exact kk q H1 k2 k3 k4
theorem g_newq (E : Ev p s m args c cc nL own D g) (hP : va_P D vwCl ws H) (hD : va_D A ws) (hS : va_S A H0 H locs) (hA : ∀ q, H0.size ≤ q → A q) (t0 : Nat) {C : String} {cT : ClassId} (ht : (tyL g)[t0]? = some (cT, .object C)) (hO : va_AO C s) {index : Nat} (hcl : Cond.classLink own index C ∈ WA) {n : Int32} (N' : Nat) (hn : ¬ n < 0) (hN : n.toNatClampNeg = N') (hb : N' * 4 ≤ 536870912) (hcells : cells + 1 ≤ R.cells) (hslots : slots + N' ≤ R.slots) (hdg : decode cc pc = .ok (.anewarray index, 3))
    (kk : ∀ (q : Nat) (H1 : Heap), va_P D vwCl (ws ++ [(q, .inl (cT, N', .inr (.inr (.inr (.inr zQ)))))]) H1 → va_D A (ws ++ [(q, .inl (cT, N', .inr (.inr (.inr (.inr zQ)))))]) → va_S A H0 H1 locs → W p l e R s m args below meth c H1 locs (cells + 1) (slots + N') Q (F0 m (pc + 3) ls (.ref q :: rest))) : W p l e R s m args below meth c H locs cells slots Q (F0 m pc ls (.int n :: rest)) := by
  refine va_newq E.1.1 E.1.2.1 E.1.2.2.2.1 (E.1.2.2.2.2 _ hcl) hO E.2.1 hP hD hS hA hn hN hb hcells hslots hdg (fun q cA H1 k1 k2 k3 k4 => ?_)
  obtain ⟨_, _, _, _, _, h1⟩ := (k1.2 5 _ rfl).2
  obtain ⟨_, _, _, _, _, h2⟩ := (E.2.1.2 t0 _ ht).2
  obtain rfl : cT = cA := Option.some.inj (h2.symm.trans h1)
  exact kk q H1 k2 k3 k4
theorem g_aast (E : Ev p s m args c cc nL own D g) (hP : va_P D vwCl ws H) (hD : va_D A ws) (hS : va_S A H0 H locs) (q0 t0 qk ci : Nat) {cA : ClassId} {r : vw_C} {n v : Nat} {vs : List Value} {f : Nat → Option Nat} (ha : ws[q0]? = some (a, .inl (cA, n, .inr (.inr (.inr (.inr f)))))) (ht : (tyL g)[t0]? = some (cA, .object r.1)) (hv : ws[qk]? = some (v, .inr (ci, vs))) (hc : vwCl[ci]? = some r) {i : Int32} (j : Nat) (hi : i = nI j) (hj : j < n) (hn : n < 2 ^ 31) (hdg : decode cc pc = .ok (.aastore, 1))
    (kk : ∀ (H1 : Heap) (locs1 : List Loc), va_P D vwCl (ws.set q0 (a, .inl (cA, n, .inr (.inr (.inr (.inr (va_up f j (some v)))))))) H1 → va_D A (ws.set q0 (a, .inl (cA, n, .inr (.inr (.inr (.inr (va_up f j (some v)))))))) → va_S A H0 H1 locs1 → W p l e R s m args below meth c H1 locs1 cells slots Q (F0 m (pc + 1) ls rest)) : W p l e R s m args below meth c H locs cells slots Q (F0 m pc ls (.ref v :: .int i :: .ref a :: rest)) := by
  refine va_astq E.1.1 E.1.2.1 E.2.1 hP hD hS q0 t0 qk ci ha ht hv hc (nI_vp hi hj hn) hdg ?_
  rw [nI_cl hi hj hn]; exact kk
theorem g_tld (E : Ev p s m args c cc nL own D g) {t N : Nat} {f : Nat → Int32} (hT : va_T .int t N (fun j => .int (f j)) A s s.heap) (hS : va_S A s.heap H locs) {i : Int32} (j : Nat) (hi : i = nI j) (hj : j < N) (hn : N < 2 ^ 31) (hdg : decode cc pc = .ok (.iaload, 1)) (kk : W p l e R s m args below meth c H locs cells slots Q (F0 m (pc + 1) ls (.int (f j) :: rest))) : W p l e R s m args below meth c H locs cells slots Q (F0 m pc ls (.int i :: .ref t :: rest)) :=
  va_ti E.1.1 E.1.2.1 hT hS (nI_vp hi hj hn) (by rw [nI_cl hi hj hn]) hdg kk
/-- a copy out of a static array -/
theorem gct_X5_59 (E : Ev p s m args c cc nL RX5 D g) (hml : nL = ls.size) (hP : va_P D vwCl ws H) (hD : va_D A ws) (hS : va_S A s.heap H locs) {b0 N : Nat} {f : Nat → Int32} (hT : va_T .int b0 N (fun j => .int (f j)) A s s.heap) (q1 : Nat) {n n1 : Nat} {f2 : Nat → Int32} (ha1 : ws[q1]? = some (a, .inl (g 0, n1, .inl f2))) {z : Int32} (hz : z = nI n) (h31 : n < 2 ^ 31) (h4 : n ≤ N) (h5 : n ≤ n1) (hframes : 1 ≤ R.frames) (hlocals : (rest.map fun v => v.category).sum + (nativeFrameWords "java/lang/System" "arraycopy" 5 + 11) ≤ R.locals) (hdg : decode cc pc = .ok (.invokestatic 59, 3))
    (kk : ∀ (H1 : Heap) (locs1 : List Loc), va_P D vwCl (ws.set q1 (a, .inl (g 0, n1, .inl (va_cpy f f2 0 0 n)))) H1 → va_D A (ws.set q1 (a, .inl (g 0, n1, .inl (va_cpy f f2 0 0 n)))) → va_S A s.heap H1 locs1 → W p l e R s m args below meth c H1 locs1 cells slots Q (F0 m (pc + 3) ls rest)) : W p l e R s m args below meth c H locs cells slots Q (F0 m pc ls (.int z :: .int 0 :: .ref a :: .int 0 :: .ref b0 :: rest)) := by
  subst hz
  have hc : (nI n).toNatClampNeg = n := nI_clamp h31
  have hi : (nI n).toInt = (n : Int) := nI_toInt h31
  obtain ⟨scr, t1, t2, t3, t4, -, t6, t7⟩ := hT
  have hlt := (Array.getElem?_eq_some_iff.mp t1).1
  intro T hT X
  have hc0 : H[b0]? = some scr := by rw [hS.2.1 b0 hlt t7]; exact t1
  have hc1 : H[a]? = some (vp_cell (g 0) (n1, .inl f2)) := hP q1 _ ha1
  obtain ⟨hs6, k0, hk0, cm0, hkk0⟩ := t2
  obtain ⟨-, k1, hk1, cm1, hkk1⟩ := (E.2.1.2 0 _ rfl).1 n1 (fun j => .int (f2 j))
  obtain ⟨vm', X', step⟩ := X.arraycopy E.1.1 E.1.2.2.2.1 (E.1.2.2.2.2 _ wm_159) (E.1.2.2.2.2 _ wm_161) (E.1.2.2.2.2 _ wm_160) (E.1.2.2.2.2 _ wm_7) (src := b0) (dst := a) (cs := scr) (cd := vp_cell (g 0) (n1, .inl f2)) (srcPos := 0) (destPos := 0) (n := nI n) (by rw [hT]; exact hc0) (by rw [hT]; exact hc1)
    hs6 (fun _ h => by cases h) t3 (fun h => by cases h) hk0 hk1 hkk0 hkk1 (by simp [refKind]) (by decide) (by decide) (nI_pos h31)
    (by rw [hi]; show ¬ (0 : Int) + _ > _; omega)
    (by rw [hi]; show ¬ (0 : Int) + _ > ((arrV (g 0) n1 (fun j => .int (f2 j))).slots.size : Int); rw [arrV_size]; omega)
    (fun vm₁ _ i hk => by
      rw [hc] at hk
      have e : scr.slots.getD ((0 : Int32).toNatClampNeg + i) .null = .int (f ((0 : Int32).toNatClampNeg + i)) := by
        rw [Array.getD_eq_getD_getElem?, t6 _ (by show 0 + i < N; omega)]
        rfl
      refine ⟨?_, ?_⟩
      · rw [e]; rfl
      · rw [e]; exact trivial)
    (g := F0 m pc ls (.int (nI n) :: .int 0 :: .ref a :: .int 0 :: .ref b0 :: rest)) rfl (by rw [E.1.2.2.1, hml]) (rest := rest) rfl (by rw [E.1.2.1]; exact hdg) hframes (by show 2 * 0 + _ + _ ≤ _; omega)
  have e1 : copied scr (vp_cell (g 0) (n1, .inl f2)) 0 0 (nI n) = vp_cell (g 0) (n1, .inl (va_cpy f f2 0 0 n)) := by
    have := va_copiedX (fun z => Value.int z) scr (g 0) (n1 := n1) (sp := 0) (dp := 0) (n := n) f f2 t6 (by omega)
    unfold copied
    rw [hc]
    exact this
  rw [e1] at X' step
  have hl : a < H.size := (Array.getElem?_eq_some_iff.mp hc1).1
  have oq : ∀ q : Nat, q ≠ a → (H.setIfInBounds a (vp_cell (g 0) (n1, .inl (va_cpy f f2 0 0 n))))[q]? = H[q]? := fun q hq => by simp [Array.getElem?_setIfInBounds, Ne.symm hq]
  obtain ⟨t, a1, b1⟩ := kk _ _ (hP.set hD ha1 (show (H.setIfInBounds a _)[a]? = some _ by simp [Array.getElem?_setIfInBounds, hl]) oq) (hD.set ha1) ⟨by simp; exact hS.1, fun q g1 g2 => by
      rw [oq q (fun e => g2 (by rw [e]; exact hD.2 q1 _ ha1))]
      exact hS.2.1 q g1 g2, fun q hq => by
      rcases List.mem_append.mp hq with h | h
      · exact hS.2.2 q h
      · obtain ⟨z, -, hz⟩ := List.mem_map.mp h
        rw [← hz]
        exact hD.2 q1 _ ha1⟩ ((T.setVm vm').setCell a (vp_cell (g 0) (n1, .inl (va_cpy f f2 0 0 n)))) (by rw [← hT]; rfl) X'
  exact ⟨t, step t a1, b1⟩
end L9J
section L9K
variable {p : Program} {l : Launch} {e : Env} {R : Room} {s : State} {m : MethodId} {args : Array Value} {below : List Frame} {meth : Method} {c : Code} {H H0 : Heap} {locs : List Loc} {cells slots : Nat} {Q : State → Prop} {cc : ByteArray} {pc nL : Nat} {ls : Array Slot} {rest : List Value} {D : va_G} {g : Nat → ClassId} {A : Nat → Prop} {ws : va_W} {a : Nat}
variable {wc wr : va_W} {rm : Room} {mc ms : Nat} {As st0 : List Value} {b : Nat}
theorem cs_X7_9 {S : Type} {post : S → Prop} {wf wn : S → va_W} {isC isR isP : List Nat} (E : Ev p s m args c cc nL RX7 D g) (hS : va_S A s.heap H locs) (hA : ∀ q, s.heap.size ≤ q → A q) (hZ : SF A s s.heap) (hP : va_P D vwCl ws H) (hD : va_D A ws) (X : Cut ws wc wr wf wn isC isR isP) (hM : Met l yX5_init (Cond.code yX5_init prog_7_method_1_code 1 none :: WA) rm (va_Pc (.ref b :: As) (PreZ D g wc H.size)) (va_Qv post (fun u t => Bp D g (va_A wc H.size) (wf u) t) (va_A wc H.size)) mc ms (va_A wc H.size)) (hR : rm.frames + 1 ≤ R.frames ∧ 8 + (1 + 11) + rm.locals ≤ R.locals) (hrc : rm.cells = mc) (hrs : rm.slots = ms) (hn : As.length = 0) (hsz : ls.size = nL) (hst0 : st0 = As.reverse ++ .ref b :: rest) (hst : (rest.map fun v => v.category).sum ≤ 8) (hf : cells + mc ≤ R.cells ∧ slots + ms ≤ R.slots) (hdg : decode cc pc = .ok (.invokespecial 9, 3)) (kk : ∀ (u : S) (H1 : Heap) (locs1 : List Loc), post u → va_P D vwCl (wn u) H1 → va_D A (wn u) → va_S A s.heap H1 locs1 → W p l e R s m args below meth c H1 locs1 (cells + mc) (slots + ms) Q (F0 m (pc + 3) ls (rest))) : W p l e R s m args below meth c H locs cells slots Q (F0 m pc ls st0) :=
  g_callv hS hA hP hD X (fun hPc hDc => va_runIN E.1 hM ⟨(g_cn E wm_30 wm_2 nl_0 hrc hrs ⟨by decide, by decide, by decide⟩ hR), rfl, E.1.2.2.2.2 _ wm_29⟩ ⟨pre_blindS, pre_giveS hPc (hD.sub isC X.2.2.1 X.1) E.2.1 E.2.2 hZ hS (va_free hD hS hA isC X.1)⟩ rfl hn hsz hst0 (lv_room hst) hdg hf) kk
theorem cs_X7_43 {S : Type} {post : S → Prop} {wf wn : S → va_W} {isC isR isP : List Nat} (E : Ev p s m args c cc nL RX7 D g) (hS : va_S A s.heap H locs) (hA : ∀ q, s.heap.size ≤ q → A q) (hZ : SF A s s.heap) (hP : va_P D vwCl ws H) (hD : va_D A ws) (X : Cut ws wc wr wf wn isC isR isP) (hM : Met l yX6_init (Cond.code yX6_init prog_8_method_1_code 2 none :: WA) rm (va_Pc (.ref b :: As) (PreZ D g wc H.size)) (va_Qv post (fun u t => Bp D g (va_A wc H.size) (wf u) t) (va_A wc H.size)) mc ms (va_A wc H.size)) (hR : rm.frames + 1 ≤ R.frames ∧ 8 + (2 + 11) + rm.locals ≤ R.locals) (hrc : rm.cells = mc) (hrs : rm.slots = ms) (hn : As.length = 0) (hsz : ls.size = nL) (hst0 : st0 = As.reverse ++ .ref b :: rest) (hst : (rest.map fun v => v.category).sum ≤ 8) (hf : cells + mc ≤ R.cells ∧ slots + ms ≤ R.slots) (hdg : decode cc pc = .ok (.invokespecial 43, 3)) (kk : ∀ (u : S) (H1 : Heap) (locs1 : List Loc), post u → va_P D vwCl (wn u) H1 → va_D A (wn u) → va_S A s.heap H1 locs1 → W p l e R s m args below meth c H1 locs1 (cells + mc) (slots + ms) Q (F0 m (pc + 3) ls (rest))) : W p l e R s m args below meth c H locs cells slots Q (F0 m pc ls st0) :=
  g_callv hS hA hP hD X (fun hPc hDc => va_runIN E.1 hM ⟨(g_cn E wm_237 wm_9 nl_49 hrc hrs ⟨by decide, by decide, by decide⟩ hR), rfl, E.1.2.2.2.2 _ wm_236⟩ ⟨pre_blindS, pre_giveS hPc (hD.sub isC X.2.2.1 X.1) E.2.1 E.2.2 hZ hS (va_free hD hS hA isC X.1)⟩ rfl hn hsz hst0 (lv_room hst) hdg hf) kk
end L9K
theorem nfX0 : ∀ j, j < 10 → defaultValue (tyX0 j) = vp_V [.int 0, .int 0, .int 0, .int 0, .int 0, .double FP.dconst0, .double FP.dconst0, .double FP.dconst0, .double FP.dconst0, .int 0] j := fun j hj => match j, hj with
  | 0, _ => rfl
  | 1, _ => rfl
  | 2, _ => rfl
  | 3, _ => rfl
  | 4, _ => rfl
  | 5, _ => rfl
  | 6, _ => rfl
  | 7, _ => rfl
  | 8, _ => rfl
  | 9, _ => rfl
  | j + 10, h => absurd h (by omega)
theorem nfX1 : ∀ j, j < 3 → defaultValue (tyX1 j) = vp_V [.int 0, .int 0, .int 0] j := fun j hj => match j, hj with
  | 0, _ => rfl
  | 1, _ => rfl
  | 2, _ => rfl
  | j + 3, h => absurd h (by omega)
theorem nfX2 : ∀ j, j < 8 → defaultValue (tyX2 j) = vp_V [.null, .int 0, .int 0, .int 0, .int 0, .int 0, .int 0, .int 0] j := fun j hj => match j, hj with
  | 0, _ => rfl
  | 1, _ => rfl
  | 2, _ => rfl
  | 3, _ => rfl
  | 4, _ => rfl
  | 5, _ => rfl
  | 6, _ => rfl
  | 7, _ => rfl
  | j + 8, h => absurd h (by omega)
theorem nfX3 : ∀ j, j < 3 → defaultValue (tyX3 j) = vp_V [.null, .null, .null] j := fun j hj => match j, hj with
  | 0, _ => rfl
  | 1, _ => rfl
  | 2, _ => rfl
  | j + 3, h => absurd h (by omega)
theorem nfX4 : ∀ j, j < 5 → defaultValue (tyX4 j) = vp_V [.int 0, .null, .null, .null, .null] j := fun j hj => match j, hj with
  | 0, _ => rfl
  | 1, _ => rfl
  | 2, _ => rfl
  | 3, _ => rfl
  | 4, _ => rfl
  | j + 5, h => absurd h (by omega)
theorem nfX5 : ∀ j, j < 9 → defaultValue (tyX5 j) = vp_V [.null, .null, .null, .null, .null, .null, .int 0, .int 0, .null] j := fun j hj => match j, hj with
  | 0, _ => rfl
  | 1, _ => rfl
  | 2, _ => rfl
  | 3, _ => rfl
  | 4, _ => rfl
  | 5, _ => rfl
  | 6, _ => rfl
  | 7, _ => rfl
  | 8, _ => rfl
  | j + 9, h => absurd h (by omega)
theorem nfX6 : ∀ j, j < 6 → defaultValue (tyX6 j) = vp_V [.null, .null, .null, .null, .int 0, .int 0] j := fun j hj => match j, hj with
  | 0, _ => rfl
  | 1, _ => rfl
  | 2, _ => rfl
  | 3, _ => rfl
  | 4, _ => rfl
  | 5, _ => rfl
  | j + 6, h => absurd h (by omega)
theorem nfX7 : ∀ j, j < 7 → defaultValue (tyX7 j) = vp_V [.null, .null, .null, .int 0, .null, .null, .null] j := fun j hj => match j, hj with
  | 0, _ => rfl
  | 1, _ => rfl
  | 2, _ => rfl
  | 3, _ => rfl
  | 4, _ => rfl
  | 5, _ => rfl
  | 6, _ => rfl
  | j + 7, h => absurd h (by omega)
theorem nfX8 : ∀ j, j < 0 → defaultValue (tyX8 j) = vp_V [] j := fun j hj => match j, hj with

  | j + 0, h => absurd h (by omega)
def pl5 (t : Nat → Nat) : Nat → Option Nat := fun i => if i < 5 then some (t (5 + i)) else none
theorem pl5_mk {t : Nat → Nat} : va_up (va_up (va_up (va_up (va_up zQ 0 (some (t 5))) 1 (some (t 6))) 2 (some (t 7))) 3 (some (t 8))) 4 (some (t 9)) = pl5 t := by
  funext i
  unfold va_up pl5 zQ
  match i with
  | 0 => rfl
  | 1 => rfl
  | 2 => rfl
  | 3 => rfl
  | 4 => rfl
  | j + 5 => rw [if_neg (by omega), if_neg (by omega), if_neg (by omega), if_neg (by omega), if_neg (by omega), if_neg (by omega)]
theorem pl5_adr {t : Nat → Nat} {b : Nat} : pl5 (adr [b, t 1, t 2, t 3, t 4, t 5, t 6, t 7, t 8, t 9]) = pl5 t := by
  funext i
  unfold pl5
  by_cases h : i < 5
  · rw [if_pos h, if_pos h]
    have : i = 0 ∨ i = 1 ∨ i = 2 ∨ i = 3 ∨ i = 4 := by omega
    rcases this with rfl | rfl | rfl | rfl | rfl <;> rfl
  · rw [if_neg h, if_neg h]
def sv4 (qs : Nat → Nat → Nat) : Nat → Option Nat := fun i => if i < 4 then some (qs i 0) else none
theorem sv4_mk {qs : Nat → Nat → Nat} : va_up (va_up (va_up (va_up zQ 0 (some (qs 0 0))) 1 (some (qs 1 0))) 2 (some (qs 2 0))) 3 (some (qs 3 0)) = sv4 qs := by
  funext i
  unfold va_up sv4 zQ
  match i with
  | 0 => rfl
  | 1 => rfl
  | 2 => rfl
  | 3 => rfl
  | j + 4 => rw [if_neg (by omega), if_neg (by omega), if_neg (by omega), if_neg (by omega), if_neg (by omega)]
def adr4 (a b c d : Nat → Nat) : Nat → Nat → Nat
  | 0 => a
  | 1 => b
  | 2 => c
  | _ => d
def jjI : Nat → Nat → Int32 := fun _ => jI
def ddI : Nat → Nat → UInt64 := fun _ => zD
