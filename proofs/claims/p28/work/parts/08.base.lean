/-! The walk's own rows: one environment, one form of contract, one row a call. -/
/-- the array classes of the worlds -/
abbrev tyL (g : Nat → ClassId) : List (ClassId × FieldType) := [(g 0, .int), (g 1, .double), (g 2, .object RX0), (g 3, .object RX5), (g 4, .int)]
def NW (U : State) : Prop := ∀ w ∈ nestL, va_Nw w U
def isNest : Cond → Bool
  | .fieldLinkNest .. => true
  | .methodLinkNest .. => true
  | _ => false
theorem nest_all : nestL.all isNest = true := by decide
theorem isNest_on {w : Cond} (h : isNest w = true) : w.onTables = true := by
  cases w <;> first | rfl | (simp [isNest] at h)
theorem NW.warm {s U : State} (hW : s.WarmedH U.vm) (h : NW s) : NW U := by
  intro w hw
  have hb := List.all_eq_true.mp nest_all w hw
  have hz := h w hw
  cases w <;> first | exact va_Nw.warmF hW hz | exact va_Nw.warmM hW hz | (simp [isNest] at hb)
theorem NW.same {u U : State} (hv : u.vm = U.vm) (h : NW u) : NW U := fun w hw => va_Nw.same (isNest_on (List.all_eq_true.mp nest_all w hw)) hv (h w hw)
theorem NW.use {U : State} (h : NW U) {w : Cond} (hw : w ∈ nestL) {args : Array Value} : w.before args U = true := va_Nw.use (isNest_on (List.all_eq_true.mp nest_all w hw)) (h w hw)
/-- what a method finds -/
abbrev Pre (D : va_G) (g : Nat → ClassId) (ws : va_W) (sz : Nat) (U : State) : Prop := U.heap.size = sz ∧ va_P D vwCl ws U.heap ∧ va_K D vwCl (tyL g) U ∧ va_D (fun _ => True) ws ∧ NW U
/-- what it leaves -/
abbrev Bp (D : va_G) (g : Nat → ClassId) (A : Nat → Prop) (ws : va_W) (t : State) : Prop := va_P D vwCl ws t.heap ∧ va_K D vwCl (tyL g) t ∧ va_D A ws
theorem pre_blind {D : va_G} {g : Nat → ClassId} {ws : va_W} {sz : Nat} {av : List Value} : FrameBlind (va_Pc av (Pre D g ws sz)) := fun a U f mk q => by
  obtain ⟨q0, q1, qP, qK, qD, qN⟩ := q
  exact ⟨q0, q1, qP, va_K.moved (u := U) (U := U.calling f mk a) (Vm.Alike.refl U.vm) qK, qD, NW.same (u := U) rfl qN⟩
theorem pre_give {D : va_G} {g : Nat → ClassId} {ws : va_W} {av : List Value} {A : Nat → Prop} {H : Heap} {s : State} (hP : va_P D vwCl ws H) (hD : va_D A ws) (hK : va_K D vwCl (tyL g) s) (hN : NW s) : ∀ U : State, U.heap = H → s.WarmedH U.vm → va_Pc av (Pre D g ws H.size) av.toArray U :=
  fun U hU hW => ⟨rfl, by rw [hU], by rw [hU]; exact hP, va_K.moved hW.alike hK, hD.weaken (fun _ _ _ _ => trivial), hN.warm hW⟩
/-- the environment of a walk -/
abbrev Ev (p : Program) (s : State) (m : MethodId) (args : Array Value) (c : Code) (cc : ByteArray) (nL : Nat) (own : String) (D : va_G) (g : Nat → ClassId) : Prop :=
  CallFix p m c cc nL s args WA own ∧ va_K D vwCl (tyL g) s ∧ NW s
theorem g_met {l : Launch} {y : MethodName} {cc : ByteArray} {maxL : Nat} {ret : Option FieldType} {rm : Room} {av : List Value} {D : va_G} {g : Nat → ClassId} {ws : va_W} {sz : Nat} {QcA : (Nat → Prop) → Array Value → State → Outcome → State → Prop} {mc ms : Nat} (hy : plainName y.cls = true) (hlen : (lg_sl av).length ≤ maxL)
    (body : ∀ (p : Program) (e : Env) (s : State) (m : MethodId) (below : List Frame) (meth : Method) (c : Code) (A : Nat → Prop) (Q : State → Prop) (ls : Array Slot), Ev p s m av.toArray c cc maxL y.cls D g → (meth.sig.returnType = ret ∧ meth.locks = false ∧ meth.name = y.name) → va_P D vwCl ws s.heap → va_D A ws → va_S A s.heap s.heap [] → (∀ q, s.heap.size ≤ q → A q) → Q = MQ below (QcA A) av.toArray s mc ms A → lv_has ls maxL (lv_args 0 av) → W p l e rm s m av.toArray below meth c s.heap [] 0 0 Q (F0 m 0 ls [])) :
    Met l y (Cond.code y cc maxL ret :: WA) rm (va_Pc av (Pre D g ws sz)) (QcA (va_A ws sz)) mc ms (va_A ws sz) := by
  refine Met.ofW (cc := cc) (maxL := maxL) (ret := ret) hy rfl ?_
  intro p e s m args below meth c s₁ B hml hv
  obtain ⟨rfl, hsz, hP, hK, hD0, hN⟩ := hv
  have hts := atoms_spec (ws := Cond.code y cc maxL ret :: WA) B.pre
  have hown : s.vm.findClass y.cls = some m.cls := findClass_of_methodNamed B.named
  have hin : meth.name = y.name := (name_of_methodNamed B.named B.method).1
  subst hsz
  have hl := lv_entry av (n := maxL) hlen
  rw [lg_entry_eq]
  exact body p e s m below meth c (va_A ws s.heap.size) _ _ ⟨⟨B.exec, B.bytes, hml, hown, fun w hw => hts w (List.mem_cons_of_mem _ hw)⟩, hK, hN⟩ ⟨B.returns, B.notSynchronized, hin⟩ hP hD0.self va_S.rf (fun q h => Or.inr h) rfl hl
section B8
variable {p : Program} {l : Launch} {e : Env} {R : Room} {s : State} {m : MethodId} {args : Array Value} {below : List Frame} {meth : Method} {c : Code} {H : Heap} {locs : List Loc} {cells slots : Nat} {Q : State → Prop} {cc : ByteArray} {pc nL : Nat} {ls : Array Slot} {rest : List Value} {D : va_G} {g : Nat → ClassId} {A : Nat → Prop} {ws : va_W} {own : String} {y : MethodName}
-- ends
theorem g_iret {S : Type} {post : Int32 → S → Prop} {wf : S → va_W} {ret : Option FieldType} {v : Int32} (hQ : Q = MQ below (va_Qi post (fun u t => Bp D g A (wf u) t) A) args s cells slots A) (E : Ev p s m args c cc nL own D g) (M : meth.sig.returnType = ret ∧ meth.locks = false ∧ meth.name = y.name) (hr : ret = some .int) (hS : va_S A s.heap H locs) (hP : va_P D vwCl ws H) (hD : va_D A ws) (u : S) (hw : ws = wf u) (hp : post v u) (hdg : decode cc pc = .ok (.ireturn, 1)) : W p l e R s m args below meth c H locs cells slots Q (F0 m pc ls [.int v]) := by
  subst hQ; subst hw
  exact W.iret E.1.1 E.1.2.1 (M.1.trans hr) (fun t ht hW => ⟨⟨v, u, rfl, hp, by rw [ht]; exact hP, va_K.moved hW.alike E.2.1, hD⟩, hS.F ht⟩) hS.2.2 hdg M.2.1
theorem g_zret {S : Type} {post : Int32 → S → Prop} {wf : S → va_W} {ret : Option FieldType} {v : Int32} (hQ : Q = MQ below (va_Qi post (fun u t => Bp D g A (wf u) t) A) args s cells slots A) (E : Ev p s m args c cc nL own D g) (M : meth.sig.returnType = ret ∧ meth.locks = false ∧ meth.name = y.name) (hr : ret = some .boolean) (hv : v = 0 ∨ v = 1) (hS : va_S A s.heap H locs) (hP : va_P D vwCl ws H) (hD : va_D A ws) (u : S) (hw : ws = wf u) (hp : post v u) (hdg : decode cc pc = .ok (.ireturn, 1)) : W p l e R s m args below meth c H locs cells slots Q (F0 m pc ls [.int v]) := by
  subst hQ; subst hw
  exact W.zret E.1.1 E.1.2.1 (M.1.trans hr) (by rcases hv with h | h <;> subst h <;> rfl) (fun t ht hW => ⟨⟨v, u, rfl, hp, by rw [ht]; exact hP, va_K.moved hW.alike E.2.1, hD⟩, hS.F ht⟩) hS.2.2 hdg M.2.1
theorem g_lret {S : Type} {post : Int64 → S → Prop} {wf : S → va_W} {ret : Option FieldType} {v : Int64} (hQ : Q = MQ below (va_Ql post (fun u t => Bp D g A (wf u) t) A) args s cells slots A) (E : Ev p s m args c cc nL own D g) (M : meth.sig.returnType = ret ∧ meth.locks = false ∧ meth.name = y.name) (hr : ret = some .long) (hS : va_S A s.heap H locs) (hP : va_P D vwCl ws H) (hD : va_D A ws) (u : S) (hw : ws = wf u) (hp : post v u) (hdg : decode cc pc = .ok (.lreturn, 1)) : W p l e R s m args below meth c H locs cells slots Q (F0 m pc ls [.long v]) := by
  subst hQ; subst hw
  exact W.lret E.1.1 E.1.2.1 (M.1.trans hr) (fun t ht hW => ⟨⟨v, u, rfl, hp, by rw [ht]; exact hP, va_K.moved hW.alike E.2.1, hD⟩, hS.F ht⟩) hS.2.2 hdg M.2.1
theorem g_dret {S : Type} {post : UInt64 → S → Prop} {wf : S → va_W} {ret : Option FieldType} {v : UInt64} (hQ : Q = MQ below (va_Qd post (fun u t => Bp D g A (wf u) t) A) args s cells slots A) (E : Ev p s m args c cc nL own D g) (M : meth.sig.returnType = ret ∧ meth.locks = false ∧ meth.name = y.name) (hr : ret = some .double) (hS : va_S A s.heap H locs) (hP : va_P D vwCl ws H) (hD : va_D A ws) (u : S) (hw : ws = wf u) (hp : post v u) (hdg : decode cc pc = .ok (.dreturn, 1)) : W p l e R s m args below meth c H locs cells slots Q (F0 m pc ls [.double v]) := by
  subst hQ; subst hw
  exact W.dret E.1.1 E.1.2.1 (M.1.trans hr) (fun t ht hW => ⟨⟨v, u, rfl, hp, by rw [ht]; exact hP, va_K.moved hW.alike E.2.1, hD⟩, hS.F ht⟩) hS.2.2 hdg M.2.1
theorem g_vret {S : Type} {post : S → Prop} {wf : S → va_W} {ret : Option FieldType} (hQ : Q = MQ below (va_Qv post (fun u t => Bp D g A (wf u) t) A) args s cells slots A) (E : Ev p s m args c cc nL own D g) (M : meth.sig.returnType = ret ∧ meth.locks = false ∧ meth.name = y.name) (hr : ret = none) (hS : va_S A s.heap H locs) (hP : va_P D vwCl ws H) (hD : va_D A ws) (u : S) (hw : ws = wf u) (hp : post u) (hdg : decode cc pc = .ok (.return_, 1)) : W p l e R s m args below meth c H locs cells slots Q (F0 m pc ls []) := by
  subst hQ; subst hw
  exact W.vret E.1.1 E.1.2.1 (M.1.trans hr) (fun t ht hW => ⟨⟨u, rfl, hp, by rw [ht]; exact hP, va_K.moved hW.alike E.2.1, hD⟩, hS.F ht⟩) hS.2.2 hdg M.2.1
-- runs
variable {wc wr : va_W} {rm : Room} {bytes : ByteArray} {maxL mc ms n idx : Nat} {ret : Option FieldType} {Qc : Array Value → State → Outcome → State → Prop} {free : Addr → Prop} {As st0 : List Value} {b : Nat} {C host : String}
theorem g_cb (E : Ev p s m args c cc nL own D g) (hcode : Cond.code y bytes maxL ret ∈ WA) (hini : Cond.initialized y.cls ∈ WA) (hl : (Cond.methodLink own idx y).before args s = true) (hrc : rm.cells = mc) (hrs : rm.slots = ms)
    (hd : y.cls ≠ "java/lang/invoke/MethodHandle" ∧ y.cls ≠ "java/lang/invoke/VarHandle" ∧ (parseMethodDescriptor y.desc).map (fun d => d.parameters.length) = some n) (hR : rm.frames + 1 ≤ R.frames ∧ 8 + (maxL + 11) + rm.locals ≤ R.locals) : CallB R s args own idx y bytes maxL ret (Cond.code y bytes maxL ret :: WA) rm mc ms n :=
  callB_of n E.1.2.2.2.2 (WA_in hcode) rfl hrc hrs (E.1.2.2.2.2 _ hini) hl hd hR
theorem g_cn (E : Ev p s m args c cc nL own D g) (hcode : Cond.code y bytes maxL ret ∈ WA) (hini : Cond.initialized y.cls ∈ WA) (hl : Cond.methodLinkNest own idx y host ∈ nestL) (hrc : rm.cells = mc) (hrs : rm.slots = ms)
    (hd : y.cls ≠ "java/lang/invoke/MethodHandle" ∧ y.cls ≠ "java/lang/invoke/VarHandle" ∧ (parseMethodDescriptor y.desc).map (fun d => d.parameters.length) = some n) (hR : rm.frames + 1 ≤ R.frames ∧ 8 + (maxL + 11) + rm.locals ≤ R.locals) : va_CN R s args own idx y host bytes maxL ret (Cond.code y bytes maxL ret :: WA) rm mc ms n :=
  va_cnB n E.1.2.2.2.2 (WA_in hcode) rfl hrc hrs (E.2.2 _ hl) (E.1.2.2.2.2 _ hini) hd hR
theorem g_rec {k ci N : Nat} {T : u_T} {fs : List Value} (E : Ev p s m args c cc nL own D g) (hk : wc[k]? = some (b, .inr (ci, fs))) (hc : vwCl[ci]? = some (C, T, N)) (hP : va_P D vwCl wc H) : ∃ cellB : Cell, H[b]? = some cellB ∧ cellB.vm.isStatics = false ∧ s.vm.findClass C = some cellB.cls :=
  va_recv E.2.1 hP hc hk
-- cut and join
theorem map_some_fm {α : Type} {X Y : List α} {is : List Nat} (h : is.map (fun i => X[i]?) = Y.map some) : is.filterMap (fun i => X[i]?) = Y := by
  induction is generalizing Y with
  | nil => cases Y with
    | nil => rfl
    | cons a t => simp at h
  | cons i t ih => cases Y with
    | nil => simp at h
    | cons a r =>
      simp only [List.map_cons, List.cons.injEq] at h
      rw [List.filterMap_cons, h.1]
      simp only [ih h.2]
theorem g_cutP {is : List Nat} (hP : va_P D vwCl ws H) (hC : is.map (fun i => ws[i]?) = wc.map some) : va_P D vwCl wc H := hP.sub is (map_some_fm hC)
theorem g_join {H1 : Heap} {w1 wn : va_W} (hP : va_P D vwCl ws H) (hD : va_D A ws) (isC isR isP : List Nat) (hC : isC.map (fun i => ws[i]?) = wc.map some) (hR : isR.map (fun i => ws[i]?) = wr.map some) (hn : va_nd isR = true) (hdis : ∀ i ∈ isR, i ∉ isC)
    (hM : isP.map (fun i => (wr ++ w1)[i]?) = wn.map some) (hpn : va_nd isP = true) (hk : ∀ q : Nat, q < H.size → ¬ va_A wc H.size q → H1[q]? = H[q]?) (hF : ∀ q, va_A wc H.size q → A q) (hP1 : va_P D vwCl w1 H1) (hD1 : va_D (va_A wc H.size) w1) : va_P D vwCl wn H1 ∧ va_D A wn := by
  obtain ⟨h1, h2⟩ := va_join hP hD isC isR hC hR hn hdis hk hF hP1 hD1
  exact ⟨h1.sub isP (map_some_fm hM), h2.sub isP hpn hM⟩
/-- how a call's cells are cut out of the world and put back -/
abbrev Cut {S : Type} (ws wc wr : va_W) (wf wn : S → va_W) (isC isR isP : List Nat) : Prop :=
  isC.map (fun i => ws[i]?) = wc.map some ∧ isR.map (fun i => ws[i]?) = wr.map some ∧ va_nd isC = true ∧ va_nd isR = true ∧ (∀ i ∈ isR, i ∉ isC) ∧ (∀ u, isP.map (fun i => (wr ++ wf u)[i]?) = (wn u).map some) ∧ va_nd isP = true
theorem g_calli {S : Type} {post : Int32 → S → Prop} {wf wn : S → va_W} {H0 : Heap} {a : Array Value} {isC isR isP : List Nat} (hS : va_S A H0 H locs) (hA : ∀ q, H0.size ≤ q → A q) (hP : va_P D vwCl ws H) (hD : va_D A ws) (X : Cut ws wc wr wf wn isC isR isP)
    (hr : va_P D vwCl wc H → va_D A wc → va_Run p l e R s m args below meth c H locs cells slots mc ms (F0 m pc ls st0) rest (va_Qi post (fun u t => Bp D g (va_A wc H.size) (wf u) t) (va_A wc H.size) a) (va_A wc H.size))
    (kk : ∀ (r : Int32) (u : S) (H1 : Heap) (locs1 : List Loc), post r u → va_P D vwCl (wn u) H1 → va_D A (wn u) → va_S A H0 H1 locs1 → W p l e R s m args below meth c H1 locs1 (cells + mc) (slots + ms) Q (F0 m (pc + 3) ls (.int r :: rest))) : W p l e R s m args below meth c H locs cells slots Q (F0 m pc ls st0) := by
  obtain ⟨hC, hR, hnC, hnR, hdis, hM, hpn⟩ := X
  have hF := va_free (wc := wc) hD hS hA isC hC
  refine va_calli (hr (g_cutP hP hC) (hD.sub isC hnC hC)) hS (fun q _ h => hF q h) hF (fun r u t H1 locs ht hvm hw hB hz1 hk1 hS => ?_)
  obtain ⟨hP1, hK1, hD1⟩ := hB
  rw [ht] at hP1
  obtain ⟨hP, hD⟩ := g_join hP hD isC isR isP hC hR hnR hdis (hM u) hpn hk1 hF hP1 hD1
  exact kk r u H1 locs hw hP hD hS
theorem g_calll {S : Type} {post : Int64 → S → Prop} {wf wn : S → va_W} {H0 : Heap} {a : Array Value} {isC isR isP : List Nat} (hS : va_S A H0 H locs) (hA : ∀ q, H0.size ≤ q → A q) (hP : va_P D vwCl ws H) (hD : va_D A ws) (X : Cut ws wc wr wf wn isC isR isP)
    (hr : va_P D vwCl wc H → va_D A wc → va_Run p l e R s m args below meth c H locs cells slots mc ms (F0 m pc ls st0) rest (va_Ql post (fun u t => Bp D g (va_A wc H.size) (wf u) t) (va_A wc H.size) a) (va_A wc H.size))
    (kk : ∀ (r : Int64) (u : S) (H1 : Heap) (locs1 : List Loc), post r u → va_P D vwCl (wn u) H1 → va_D A (wn u) → va_S A H0 H1 locs1 → W p l e R s m args below meth c H1 locs1 (cells + mc) (slots + ms) Q (F0 m (pc + 3) ls (.long r :: rest))) : W p l e R s m args below meth c H locs cells slots Q (F0 m pc ls st0) := by
  obtain ⟨hC, hR, hnC, hnR, hdis, hM, hpn⟩ := X
  have hF := va_free (wc := wc) hD hS hA isC hC
  refine va_calll (hr (g_cutP hP hC) (hD.sub isC hnC hC)) hS (fun q _ h => hF q h) hF (fun r u t H1 locs ht hvm hw hB hz1 hk1 hS => ?_)
  obtain ⟨hP1, hK1, hD1⟩ := hB
  rw [ht] at hP1
  obtain ⟨hP, hD⟩ := g_join hP hD isC isR isP hC hR hnR hdis (hM u) hpn hk1 hF hP1 hD1
  exact kk r u H1 locs hw hP hD hS
theorem g_calld {S : Type} {post : UInt64 → S → Prop} {wf wn : S → va_W} {H0 : Heap} {a : Array Value} {isC isR isP : List Nat} (hS : va_S A H0 H locs) (hA : ∀ q, H0.size ≤ q → A q) (hP : va_P D vwCl ws H) (hD : va_D A ws) (X : Cut ws wc wr wf wn isC isR isP)
    (hr : va_P D vwCl wc H → va_D A wc → va_Run p l e R s m args below meth c H locs cells slots mc ms (F0 m pc ls st0) rest (va_Qd post (fun u t => Bp D g (va_A wc H.size) (wf u) t) (va_A wc H.size) a) (va_A wc H.size))
    (kk : ∀ (r : UInt64) (u : S) (H1 : Heap) (locs1 : List Loc), post r u → va_P D vwCl (wn u) H1 → va_D A (wn u) → va_S A H0 H1 locs1 → W p l e R s m args below meth c H1 locs1 (cells + mc) (slots + ms) Q (F0 m (pc + 3) ls (.double r :: rest))) : W p l e R s m args below meth c H locs cells slots Q (F0 m pc ls st0) := by
  obtain ⟨hC, hR, hnC, hnR, hdis, hM, hpn⟩ := X
  have hF := va_free (wc := wc) hD hS hA isC hC
  refine va_calld (hr (g_cutP hP hC) (hD.sub isC hnC hC)) hS (fun q _ h => hF q h) hF (fun r u t H1 locs ht hvm hw hB hz1 hk1 hS => ?_)
  obtain ⟨hP1, hK1, hD1⟩ := hB
  rw [ht] at hP1
  obtain ⟨hP, hD⟩ := g_join hP hD isC isR isP hC hR hnR hdis (hM u) hpn hk1 hF hP1 hD1
  exact kk r u H1 locs hw hP hD hS
theorem g_callv {S : Type} {post : S → Prop} {wf wn : S → va_W} {H0 : Heap} {a : Array Value} {isC isR isP : List Nat} (hS : va_S A H0 H locs) (hA : ∀ q, H0.size ≤ q → A q) (hP : va_P D vwCl ws H) (hD : va_D A ws) (X : Cut ws wc wr wf wn isC isR isP)
    (hr : va_P D vwCl wc H → va_D A wc → va_Run p l e R s m args below meth c H locs cells slots mc ms (F0 m pc ls st0) rest (va_Qv post (fun u t => Bp D g (va_A wc H.size) (wf u) t) (va_A wc H.size) a) (va_A wc H.size))
    (kk : ∀ (u : S) (H1 : Heap) (locs1 : List Loc), post u → va_P D vwCl (wn u) H1 → va_D A (wn u) → va_S A H0 H1 locs1 → W p l e R s m args below meth c H1 locs1 (cells + mc) (slots + ms) Q (F0 m (pc + 3) ls rest)) : W p l e R s m args below meth c H locs cells slots Q (F0 m pc ls st0) := by
  obtain ⟨hC, hR, hnC, hnR, hdis, hM, hpn⟩ := X
  have hF := va_free (wc := wc) hD hS hA isC hC
  refine va_callv (hr (g_cutP hP hC) (hD.sub isC hnC hC)) hS (fun q _ h => hF q h) hF (fun u t H1 locs ht hvm hw hB hz1 hk1 hS => ?_)
  obtain ⟨hP1, hK1, hD1⟩ := hB
  rw [ht] at hP1
  obtain ⟨hP, hD⟩ := g_join hP hD isC isR isP hC hR hnR hdis (hM u) hpn hk1 hF hP1 hD1
  exact kk u H1 locs hw hP hD hS
-- arrays: the index as a Nat
variable {H0 : Heap} {a : Nat}
theorem nI_vp {i : Int32} {j n : Nat} (hi : i = nI j) (hj : j < n) (hn : n < 2 ^ 31) : vp_in i n := by subst hi; exact vp_in_nI hj hn
theorem nI_cl {i : Int32} {j n : Nat} (hi : i = nI j) (hj : j < n) (hn : n < 2 ^ 31) : i.toNatClampNeg = j := by subst hi; exact nI_clamp (Nat.lt_trans hj hn)
theorem g_iald (E : Ev p s m args c cc nL own D g) (hP : va_P D vwCl ws H) (q0 : Nat) {N : Nat} {f : Nat → Int32} (ha : ws[q0]? = some (a, .inl (g 0, N, .inl f))) {i : Int32} (j : Nat) (hi : i = nI j) (hj : j < N) (hn : N < 2 ^ 31) (hdg : decode cc pc = .ok (.iaload, 1))
    (kk : W p l e R s m args below meth c H locs cells slots Q (F0 m (pc + 1) ls (.int (f j) :: rest))) : W p l e R s m args below meth c H locs cells slots Q (F0 m pc ls (.int i :: .ref a :: rest)) := by
  refine va_iald E.1.1 E.1.2.1 E.2.1 hP q0 0 ha rfl (nI_vp hi hj hn) hdg ?_
  rw [nI_cl hi hj hn]; exact kk
theorem g_dald (E : Ev p s m args c cc nL own D g) (hP : va_P D vwCl ws H) (q0 : Nat) {N : Nat} {f : Nat → UInt64} (ha : ws[q0]? = some (a, .inl (g 1, N, .inr (.inr (.inr (.inl f)))))) {i : Int32} (j : Nat) (hi : i = nI j) (hj : j < N) (hn : N < 2 ^ 31) (hdg : decode cc pc = .ok (.daload, 1))
    (kk : W p l e R s m args below meth c H locs cells slots Q (F0 m (pc + 1) ls (.double (f j) :: rest))) : W p l e R s m args below meth c H locs cells slots Q (F0 m pc ls (.int i :: .ref a :: rest)) := by
  refine va_dald E.1.1 E.1.2.1 E.2.1 hP q0 1 ha rfl (nI_vp hi hj hn) hdg ?_
  rw [nI_cl hi hj hn]; exact kk
theorem g_aald (E : Ev p s m args c cc nL own D g) (hP : va_P D vwCl ws H) (q0 t0 : Nat) {C : String} {cA : ClassId} {N : Nat} {f : Nat → Option Nat} (ha : ws[q0]? = some (a, .inl (cA, N, .inr (.inr (.inr (.inr f)))))) (ht : (tyL g)[t0]? = some (cA, .object C)) {i : Int32} (j : Nat) (hi : i = nI j) (hj : j < N) (hn : N < 2 ^ 31) {o : Nat} (ho : f j = some o) (hdg : decode cc pc = .ok (.aaload, 1))
    (kk : W p l e R s m args below meth c H locs cells slots Q (F0 m (pc + 1) ls (.ref o :: rest))) : W p l e R s m args below meth c H locs cells slots Q (F0 m pc ls (.int i :: .ref a :: rest)) := by
  refine va_aldq E.1.1 E.1.2.1 E.2.1 hP q0 t0 ha ht (nI_vp hi hj hn) hdg ?_
  rw [nI_cl hi hj hn, ho]; exact kk
theorem g_iast (E : Ev p s m args c cc nL own D g) (hP : va_P D vwCl ws H) (hD : va_D A ws) (hS : va_S A H0 H locs) (q0 : Nat) {N : Nat} {f : Nat → Int32} (ha : ws[q0]? = some (a, .inl (g 0, N, .inl f))) {i x : Int32} (j : Nat) (hi : i = nI j) (hj : j < N) (hn : N < 2 ^ 31) (hdg : decode cc pc = .ok (.iastore, 1))
    (kk : ∀ (H1 : Heap) (locs1 : List Loc), va_P D vwCl (ws.set q0 (a, .inl (g 0, N, .inl (upd f j x)))) H1 → va_D A (ws.set q0 (a, .inl (g 0, N, .inl (upd f j x)))) → va_S A H0 H1 locs1 → W p l e R s m args below meth c H1 locs1 cells slots Q (F0 m (pc + 1) ls rest)) : W p l e R s m args below meth c H locs cells slots Q (F0 m pc ls (.int x :: .int i :: .ref a :: rest)) := by
  refine va_iast E.1.1 E.1.2.1 E.2.1 hP hD hS q0 0 ha rfl (nI_vp hi hj hn) hdg ?_
  rw [nI_cl hi hj hn]; exact kk
theorem g_dast (E : Ev p s m args c cc nL own D g) (hP : va_P D vwCl ws H) (hD : va_D A ws) (hS : va_S A H0 H locs) (q0 : Nat) {N : Nat} {f : Nat → UInt64} (ha : ws[q0]? = some (a, .inl (g 1, N, .inr (.inr (.inr (.inl f)))))) {i : Int32} {x : UInt64} (j : Nat) (hi : i = nI j) (hj : j < N) (hn : N < 2 ^ 31) (hdg : decode cc pc = .ok (.dastore, 1))
    (kk : ∀ (H1 : Heap) (locs1 : List Loc), va_P D vwCl (ws.set q0 (a, .inl (g 1, N, .inr (.inr (.inr (.inl (vf_upd f j x))))))) H1 → va_D A (ws.set q0 (a, .inl (g 1, N, .inr (.inr (.inr (.inl (vf_upd f j x))))))) → va_S A H0 H1 locs1 → W p l e R s m args below meth c H1 locs1 cells slots Q (F0 m (pc + 1) ls rest)) : W p l e R s m args below meth c H locs cells slots Q (F0 m pc ls (.double x :: .int i :: .ref a :: rest)) := by
  refine va_dast E.1.1 E.1.2.1 E.2.1 hP hD hS q0 1 ha rfl (nI_vp hi hj hn) hdg ?_
  rw [nI_cl hi hj hn]; exact kk
theorem g_top {v w : Value} (h : v = w) (k : W p l e R s m args below meth c H locs cells slots Q (F0 m pc ls (w :: rest))) : W p l e R s m args below meth c H locs cells slots Q (F0 m pc ls (v :: rest)) := by subst h; exact k
/-- the world, said otherwise -/
theorem g_world {w2 : va_W} (hP : va_P D vwCl ws H) (hD : va_D A ws) (h : ws = w2) : va_P D vwCl w2 H ∧ va_D A w2 := by subst h; exact ⟨hP, hD⟩
end B8
-- indices
theorem ix_add {x y : Int32} {a b : Nat} (hx : x = nI a) (hy : y = nI b) : x + y = nI (a + b) := by rw [hx, hy]; exact nI_add a b
theorem ix_mul {x y : Int32} {a b : Nat} (hx : x = nI a) (hy : y = nI b) : x * y = nI (a * b) := by rw [hx, hy]; exact pk_mul a b
theorem ix_sub {x y : Int32} {a b : Nat} (hx : x = nI a) (hy : y = nI b) (h : b ≤ a) : x - y = nI (a - b) := by rw [hx, hy]; exact pk_sub h
theorem ix_div {x y : Int32} {a b : Nat} (hx : x = nI a) (hy : y = nI b) (ha : a < 2 ^ 31) (h0 : 0 < b) (hb : b < 2 ^ 31) : x / y = nI (a / b) := by rw [hx, hy]; exact pk_div ha h0 hb
theorem ix_rem {x y : Int32} {a b : Nat} (hx : x = nI a) (hy : y = nI b) (ha : a < 2 ^ 31) (h0 : 0 < b) (hb : b < 2 ^ 31) : x - x / y * y = nI (a % b) := by rw [hx, hy]; exact pk_rem ha h0 hb
