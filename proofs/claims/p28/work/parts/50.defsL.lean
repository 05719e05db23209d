/-! Exceptions that leave a method of the class. -/
abbrev xIA : String := "java/lang/IllegalArgumentException"
abbrev xIS : String := "java/lang/IllegalStateException"
abbrev xIB : String := "java/lang/IndexOutOfBoundsException"
abbrev xN : List String := ["java/lang/RuntimeException", "java/lang/Exception"]
abbrev xB : List Cond := [.declares ⟨"java/lang/RuntimeException", "<init>", "(Ljava/lang/String;)V"⟩, .declares ⟨"java/lang/Exception", "<init>", "(Ljava/lang/String;)V"⟩, .declares ⟨"java/lang/Throwable", "<init>", "(Ljava/lang/String;)V"⟩, .castable xIA xIA, .castable xIS xIS, .castable xIB xIB]
abbrev xS : List (Nat × String) := [(93, "azimuth or altitude out of range"), (104, "there is no room for another star"), (114, "no such star"), (120, "star out of the limits, or too late"), (133, "no aim to learn from"), (162, "nothing of this number is known of a star"), (220, "no set of one to five stars"), (222, "no such place"), (257, "there is no saved state"), (151, "no such region"), (188, "no such value"), (195, "no such bend"), (193, "no such setting"), (177, "no such miss"), (182, "there was no aim"), (84, "no such bend, or its value is out of range"), (61, "no such setting, or its value is out of range"), (72, "the low limit would be greater than the high one"), (146, "too late")]
theorem xg_IA : ∀ w ∈ (vx_atS RX7 63 xIA xN).filter goodWord, w ∈ WA := by
  have h : ∀ w ∈ (vx_atS RX7 63 xIA xN).filter goodWord, w ∈ lw_tbl ∧ goodWord w = true := by decide +kernel
  exact fun w hw => WA_of (h w hw).1 (h w hw).2
theorem xb_IA : ∀ w ∈ (vx_atS RX7 63 xIA xN).filter (fun w => !goodWord w), w ∈ xB := by decide +kernel
theorem xo_IA : ∀ w ∈ Cond.classLink RX7 59 xIA :: Cond.initialized xIA :: vx_atS RX7 63 xIA xN, vx_ot w = true := by decide +kernel
theorem xg_IS : ∀ w ∈ (vx_atS RX7 74 xIS xN).filter goodWord, w ∈ WA := by
  have h : ∀ w ∈ (vx_atS RX7 74 xIS xN).filter goodWord, w ∈ lw_tbl ∧ goodWord w = true := by decide +kernel
  exact fun w hw => WA_of (h w hw).1 (h w hw).2
theorem xb_IS : ∀ w ∈ (vx_atS RX7 74 xIS xN).filter (fun w => !goodWord w), w ∈ xB := by decide +kernel
theorem xo_IS : ∀ w ∈ Cond.classLink RX7 70 xIS :: Cond.initialized xIS :: vx_atS RX7 74 xIS xN, vx_ot w = true := by decide +kernel
theorem xg_IB : ∀ w ∈ (vx_atS RX7 116 xIB xN).filter goodWord, w ∈ WA := by
  have h : ∀ w ∈ (vx_atS RX7 116 xIB xN).filter goodWord, w ∈ lw_tbl ∧ goodWord w = true := by decide +kernel
  exact fun w hw => WA_of (h w hw).1 (h w hw).2
theorem xb_IB : ∀ w ∈ (vx_atS RX7 116 xIB xN).filter (fun w => !goodWord w), w ∈ xB := by decide +kernel
theorem xo_IB : ∀ w ∈ Cond.classLink RX7 112 xIB :: Cond.initialized xIB :: vx_atS RX7 116 xIB xN, vx_ot w = true := by decide +kernel
def XE (A : Nat → Prop) (U : State) (H : Heap) : Prop := (∀ w ∈ xB, va_Nw w U) ∧ vx_Zq Bundle.tN "UNASSIGNED_STACK" Bundle.steD A U H ∧ vx_Zq Bundle.tN "SUPPRESSED_SENTINEL" Bundle.listD A U H ∧ ∀ q ∈ xS, ∃ sa, vk_R RX7 q.1 q.2 sa U
theorem xB_warm {s U : State} (hW : s.WarmedH U.vm) (h : ∀ w ∈ xB, va_Nw w s) : ∀ w ∈ xB, va_Nw w U := fun w hw => by
  have hz := h w hw
  simp only [xB, List.mem_cons, List.not_mem_nil, or_false] at hw
  rcases hw with e | e | e | e | e | e <;> subst e
  · exact va_Nw.warmD hW hz
  · exact va_Nw.warmD hW hz
  · exact va_Nw.warmD hW hz
  · exact va_Nw.warmC hW hz
  · exact va_Nw.warmC hW hz
  · exact va_Nw.warmC hW hz
theorem xB_tab : ∀ w ∈ xB, w.onTables = true := by decide
theorem XE.warm {A : Nat → Prop} {s U : State} {H : Heap} (hW : s.WarmedH U.vm) (h : XE A s H) : XE A U H :=
  ⟨xB_warm hW h.1, vx_Zq.moved hW.alike h.2.1, vx_Zq.moved hW.alike h.2.2.1, fun q hq => let ⟨sa, z⟩ := h.2.2.2 q hq; ⟨sa, vk_R.warm hW z⟩⟩
theorem XE.same {A : Nat → Prop} {s U : State} {H : Heap} (hv : s.vm = U.vm) (ha : s.vm.Alike U.vm) (h : XE A s H) : XE A U H :=
  ⟨fun w hw => va_Nw.same (xB_tab w hw) hv (h.1 w hw), vx_Zq.moved ha h.2.1, vx_Zq.moved ha h.2.2.1, fun q hq => let ⟨sa, z⟩ := h.2.2.2 q hq; ⟨sa, vk_R.same hv.symm z⟩⟩
theorem XE.kept {A : Nat → Prop} {U : State} {H H1 : Heap} (h : XE A U H) (hq : ∀ a : Nat, a < H.size → ¬ A a → H1[a]? = H[a]?) : XE A U H1 := ⟨h.1, h.2.1.kept hq, h.2.2.1.kept hq, h.2.2.2⟩
theorem XE.narrow {A B : Nat → Prop} {U : State} {H : Heap} (h : XE A U H) (hAB : ∀ q, B q → A q) : XE B U H := ⟨h.1, h.2.1.narrow hAB, h.2.2.1.narrow hAB, h.2.2.2⟩
abbrev PreX (D : va_G) (g : Nat → ClassId) (ws : va_W) (sz : Nat) (U : State) : Prop := PreZ D g ws sz U ∧ XE (va_A ws sz) U U.heap
theorem pre_blindX {D : va_G} {g : Nat → ClassId} {ws : va_W} {sz : Nat} {av : List Value} : FrameBlind (va_Pc av (PreX D g ws sz)) := fun a U f mk q => by
  obtain ⟨q0, qz, qx⟩ := q
  obtain ⟨p0, p1⟩ := pre_blindS (av := av) (D := D) (g := g) (ws := ws) (sz := sz) a U f mk ⟨q0, qz⟩
  exact ⟨p0, p1, XE.same (s := U) (U := U.calling f mk a) rfl (Vm.Alike.refl U.vm) qx⟩
theorem pre_giveX {D : va_G} {g : Nat → ClassId} {ws : va_W} {av : List Value} {A : Nat → Prop} {H : Heap} {s : State} {locs : List Loc} (hP : va_P D vwCl ws H) (hD : va_D A ws) (hK : va_K D vwCl (tyL g) s) (hN : NW s) (hZ : SF A s s.heap) (hX : XE A s s.heap) (hS : va_S A s.heap H locs) (hF : ∀ q, va_A ws H.size q → A q) : ∀ U : State, U.heap = H → s.WarmedH U.vm → va_Pc av (PreX D g ws H.size) av.toArray U := fun U hU hW => by
  obtain ⟨p0, p1⟩ := pre_giveS (av := av) hP hD hK hN hZ hS hF U hU hW
  exact ⟨p0, p1, by rw [hU]; exact XE.warm hW ((hX.kept (fun a h1 h2 => hS.2.1 a h1 h2)).narrow hF)⟩
theorem g_metX {l : Launch} {y : MethodName} {cc : ByteArray} {maxL : Nat} {ret : Option FieldType} {rm : Room} {av : List Value} {D : va_G} {g : Nat → ClassId} {ws : va_W} {sz : Nat} {QcA : (Nat → Prop) → Array Value → State → Outcome → State → Prop} {XCA : (Nat → Prop) → String → State → State → Prop} {mc ms : Nat} (hy : plainName y.cls = true) (hlen : (lg_sl av).length ≤ maxL)
    (body : ∀ (p : Program) (e : Env) (s : State) (m : MethodId) (below : List Frame) (meth : Method) (c : Code) (A : Nat → Prop) (Q : State → Prop) (ls : Array Slot), SF A s s.heap → XE A s s.heap → (∀ x ∈ c.exceptionTable.toList, False) → Ev p s m av.toArray c cc maxL y.cls D g → (meth.sig.returnType = ret ∧ meth.locks = false ∧ meth.name = y.name) → va_P D vwCl ws s.heap → va_D A ws → va_S A s.heap s.heap [] → (∀ q, s.heap.size ≤ q → A q) → Q = vx_MQ below (QcA A) (XCA A) av.toArray s mc ms A → lv_has ls maxL (lv_args 0 av) → W p l e rm s m av.toArray below meth c s.heap [] 0 0 Q (F0 m 0 ls [])) :
    vx_Met l y (Cond.code y cc maxL ret :: WA) rm (va_Pc av (PreX D g ws sz)) (QcA (va_A ws sz)) (XCA (va_A ws sz)) mc ms (va_A ws sz) := by
  refine vx_ofW (cc := cc) (maxL := maxL) (ret := ret) hy rfl ?_
  intro p e s m args below meth c s₁ B hml htab hv
  obtain ⟨rfl, ⟨⟨hsz, hP, hK, hD0, hN⟩, hZ⟩, hX⟩ := hv
  have hts := atoms_spec (ws := Cond.code y cc maxL ret :: WA) B.pre
  have hown : s.vm.findClass y.cls = some m.cls := findClass_of_methodNamed B.named
  have hin : meth.name = y.name := (name_of_methodNamed B.named B.method).1
  subst hsz
  have hl := lv_entry av (n := maxL) hlen
  rw [lg_entry_eq]
  exact body p e s m below meth c (va_A ws s.heap.size) _ _ hZ hX htab ⟨⟨B.exec, B.bytes, hml, hown, fun w hw => hts w (List.mem_cons_of_mem _ hw)⟩, hK, hN⟩ ⟨B.returns, B.notSynchronized, hin⟩ hP hD0.self va_S.rf (fun q h => Or.inr h) rfl hl
section L9L
variable {p : Program} {l : Launch} {e : Env} {R : Room} {s : State} {m : MethodId} {args : Array Value} {below : List Frame} {meth : Method} {c : Code} {H : Heap} {locs : List Loc} {cells slots : Nat} {Q : State → Prop} {cc : ByteArray} {pc nL : Nat} {ls : Array Slot} {rest : List Value} {D : va_G} {g : Nat → ClassId} {A : Nat → Prop} {ws : va_W}
theorem gx_IA {S : Type} {pxe : String → S → Prop} {wfx : S → va_W} {Qc : Array Value → State → Outcome → State → Prop} {mc ms sk : Nat} {text : String} {ret : Option FieldType} {nm : String} (hl0 : l.stackTraces = false) (hX : XE A s s.heap) (htab : ∀ x ∈ c.exceptionTable.toList, False) (E : Ev p s m args c cc nL RX7 D g) (M : meth.sig.returnType = ret ∧ meth.locks = false ∧ meth.name = nm) (hsz : ls.size = nL) (hS : va_S A s.heap H locs) (hP : va_P D vwCl ws H) (hD : va_D A ws) (hstr : (sk, text) ∈ xS) (d0 : decode cc pc = .ok (.new 59, 3)) (d3 : decode cc (pc + 3) = .ok (.dup, 1)) (d4 : decode cc (pc + 4) = .ok (.ldc sk, 2)) (d6 : decode cc (pc + 6) = .ok (.invokespecial 63, 3)) (d9 : decode cc (pc + 9) = .ok (.athrow, 1))
    (hRf : 5 < R.frames) (hRl : (rest.map fun v => v.category).sum + 82 ≤ R.locals) (hRc : cells + 1 ≤ R.cells) (hRs : slots + 6 ≤ R.slots) (hQ : Q = vx_MQ below Qc (vx_X (fun _ => True) (fun E (u : S) t => pxe E u ∧ Bp D g A (wfx u) t) A) args s mc ms A) (u : S) (hw : ws = wfx u) (hp : pxe xIA u) (hc : cells + 1 ≤ mc) (hs : slots + 6 ≤ ms) : W p l e R s m args below meth c H locs cells slots Q (F0 m pc ls rest) := by
  subst hQ
  obtain ⟨sa, hsa⟩ := hX.2.2.2 (sk, text) hstr
  refine vx_throwS (names := xN) E.1.1 E.1.2.1 hl0 E.1.2.2.2.1 (by decide +kernel) (by decide +kernel) (E.1.2.2.2.2 _ wm_290) (E.1.2.2.2.2 _ wm_15) hsa (vx_hat (B := xB) (fun w hw => E.1.2.2.2.2 _ (xg_IA w hw)) xb_IA (fun w hw => va_Nw.use (xB_tab w hw) (hX.1 w hw))) xo_IA hX.2.1 hX.2.2.1 hS (hsz.trans E.1.2.2.1.symm) d0 d3 d4 d6 d9 (fun x hx => (htab x hx).elim) hRf hRl hRc hRs M.2.1 (fun t ht h1 h2 => ?_) hS.2.2 hc hs
  refine ⟨u, trivial, ⟨hp, ?_, va_K.moved ht E.2.1, hw ▸ hD⟩, ⟨Nat.le_trans hS.1 h1, fun q g1 g2 => (h2 q (Nat.lt_of_lt_of_le g1 hS.1)).trans (hS.2.1 q g1 g2)⟩⟩
  rw [← hw]
  exact hP.kept (fun k q hk => h2 q.1 ((hP k q hk).lt))
theorem gx_IS {S : Type} {pxe : String → S → Prop} {wfx : S → va_W} {Qc : Array Value → State → Outcome → State → Prop} {mc ms sk : Nat} {text : String} {ret : Option FieldType} {nm : String} (hl0 : l.stackTraces = false) (hX : XE A s s.heap) (htab : ∀ x ∈ c.exceptionTable.toList, False) (E : Ev p s m args c cc nL RX7 D g) (M : meth.sig.returnType = ret ∧ meth.locks = false ∧ meth.name = nm) (hsz : ls.size = nL) (hS : va_S A s.heap H locs) (hP : va_P D vwCl ws H) (hD : va_D A ws) (hstr : (sk, text) ∈ xS) (d0 : decode cc pc = .ok (.new 70, 3)) (d3 : decode cc (pc + 3) = .ok (.dup, 1)) (d4 : decode cc (pc + 4) = .ok (.ldc sk, 2)) (d6 : decode cc (pc + 6) = .ok (.invokespecial 74, 3)) (d9 : decode cc (pc + 9) = .ok (.athrow, 1))
    (hRf : 5 < R.frames) (hRl : (rest.map fun v => v.category).sum + 82 ≤ R.locals) (hRc : cells + 1 ≤ R.cells) (hRs : slots + 6 ≤ R.slots) (hQ : Q = vx_MQ below Qc (vx_X (fun _ => True) (fun E (u : S) t => pxe E u ∧ Bp D g A (wfx u) t) A) args s mc ms A) (u : S) (hw : ws = wfx u) (hp : pxe xIS u) (hc : cells + 1 ≤ mc) (hs : slots + 6 ≤ ms) : W p l e R s m args below meth c H locs cells slots Q (F0 m pc ls rest) := by
  subst hQ
  obtain ⟨sa, hsa⟩ := hX.2.2.2 (sk, text) hstr
  refine vx_throwS (names := xN) E.1.1 E.1.2.1 hl0 E.1.2.2.2.1 (by decide +kernel) (by decide +kernel) (E.1.2.2.2.2 _ wm_358) (E.1.2.2.2.2 _ wm_17) hsa (vx_hat (B := xB) (fun w hw => E.1.2.2.2.2 _ (xg_IS w hw)) xb_IS (fun w hw => va_Nw.use (xB_tab w hw) (hX.1 w hw))) xo_IS hX.2.1 hX.2.2.1 hS (hsz.trans E.1.2.2.1.symm) d0 d3 d4 d6 d9 (fun x hx => (htab x hx).elim) hRf hRl hRc hRs M.2.1 (fun t ht h1 h2 => ?_) hS.2.2 hc hs
  refine ⟨u, trivial, ⟨hp, ?_, va_K.moved ht E.2.1, hw ▸ hD⟩, ⟨Nat.le_trans hS.1 h1, fun q g1 g2 => (h2 q (Nat.lt_of_lt_of_le g1 hS.1)).trans (hS.2.1 q g1 g2)⟩⟩
  rw [← hw]
  exact hP.kept (fun k q hk => h2 q.1 ((hP k q hk).lt))
theorem gx_IB {S : Type} {pxe : String → S → Prop} {wfx : S → va_W} {Qc : Array Value → State → Outcome → State → Prop} {mc ms sk : Nat} {text : String} {ret : Option FieldType} {nm : String} (hl0 : l.stackTraces = false) (hX : XE A s s.heap) (htab : ∀ x ∈ c.exceptionTable.toList, False) (E : Ev p s m args c cc nL RX7 D g) (M : meth.sig.returnType = ret ∧ meth.locks = false ∧ meth.name = nm) (hsz : ls.size = nL) (hS : va_S A s.heap H locs) (hP : va_P D vwCl ws H) (hD : va_D A ws) (hstr : (sk, text) ∈ xS) (d0 : decode cc pc = .ok (.new 112, 3)) (d3 : decode cc (pc + 3) = .ok (.dup, 1)) (d4 : decode cc (pc + 4) = .ok (.ldc sk, 2)) (d6 : decode cc (pc + 6) = .ok (.invokespecial 116, 3)) (d9 : decode cc (pc + 9) = .ok (.athrow, 1))
    (hRf : 5 < R.frames) (hRl : (rest.map fun v => v.category).sum + 82 ≤ R.locals) (hRc : cells + 1 ≤ R.cells) (hRs : slots + 6 ≤ R.slots) (hQ : Q = vx_MQ below Qc (vx_X (fun _ => True) (fun E (u : S) t => pxe E u ∧ Bp D g A (wfx u) t) A) args s mc ms A) (u : S) (hw : ws = wfx u) (hp : pxe xIB u) (hc : cells + 1 ≤ mc) (hs : slots + 6 ≤ ms) : W p l e R s m args below meth c H locs cells slots Q (F0 m pc ls rest) := by
  subst hQ
  obtain ⟨sa, hsa⟩ := hX.2.2.2 (sk, text) hstr
  refine vx_throwS (names := xN) E.1.1 E.1.2.1 hl0 E.1.2.2.2.1 (by decide +kernel) (by decide +kernel) (E.1.2.2.2.2 _ wm_429) (E.1.2.2.2.2 _ wm_13) hsa (vx_hat (B := xB) (fun w hw => E.1.2.2.2.2 _ (xg_IB w hw)) xb_IB (fun w hw => va_Nw.use (xB_tab w hw) (hX.1 w hw))) xo_IB hX.2.1 hX.2.2.1 hS (hsz.trans E.1.2.2.1.symm) d0 d3 d4 d6 d9 (fun x hx => (htab x hx).elim) hRf hRl hRc hRs M.2.1 (fun t ht h1 h2 => ?_) hS.2.2 hc hs
  refine ⟨u, trivial, ⟨hp, ?_, va_K.moved ht E.2.1, hw ▸ hD⟩, ⟨Nat.le_trans hS.1 h1, fun q g1 g2 => (h2 q (Nat.lt_of_lt_of_le g1 hS.1)).trans (hS.2.1 q g1 g2)⟩⟩
  rw [← hw]
  exact hP.kept (fun k q hk => h2 q.1 ((hP k q hk).lt))
theorem gxw_IS {S : Type} {pxe : String → S → Prop} {wfx : S → va_W} {Qc : Array Value → State → Outcome → State → Prop} {mc ms sk : Nat} {text : String} {ret : Option FieldType} {nm : String} (hl0 : l.stackTraces = false) (hX : XE A s s.heap) (htab : ∀ x ∈ c.exceptionTable.toList, False) (E : Ev p s m args c cc nL RX7 D g) (M : meth.sig.returnType = ret ∧ meth.locks = false ∧ meth.name = nm) (hsz : ls.size = nL) (hS : va_S A s.heap H locs) (hP : va_P D vwCl ws H) (hD : va_D A ws) (hstr : (sk, text) ∈ xS) (d0 : decode cc pc = .ok (.new 70, 3)) (d3 : decode cc (pc + 3) = .ok (.dup, 1)) (d4 : decode cc (pc + 4) = .ok (.ldc_w sk, 3)) (d6 : decode cc (pc + 7) = .ok (.invokespecial 74, 3)) (d9 : decode cc (pc + 10) = .ok (.athrow, 1))
    (hRf : 5 < R.frames) (hRl : (rest.map fun v => v.category).sum + 82 ≤ R.locals) (hRc : cells + 1 ≤ R.cells) (hRs : slots + 6 ≤ R.slots) (hQ : Q = vx_MQ below Qc (vx_X (fun _ => True) (fun E (u : S) t => pxe E u ∧ Bp D g A (wfx u) t) A) args s mc ms A) (u : S) (hw : ws = wfx u) (hp : pxe xIS u) (hc : cells + 1 ≤ mc) (hs : slots + 6 ≤ ms) : W p l e R s m args below meth c H locs cells slots Q (F0 m pc ls rest) := by
  subst hQ
  obtain ⟨sa, hsa⟩ := hX.2.2.2 (sk, text) hstr
  refine vx_throwSW (names := xN) E.1.1 E.1.2.1 hl0 E.1.2.2.2.1 (by decide +kernel) (by decide +kernel) (E.1.2.2.2.2 _ wm_358) (E.1.2.2.2.2 _ wm_17) hsa (vx_hat (B := xB) (fun w hw => E.1.2.2.2.2 _ (xg_IS w hw)) xb_IS (fun w hw => va_Nw.use (xB_tab w hw) (hX.1 w hw))) xo_IS hX.2.1 hX.2.2.1 hS (hsz.trans E.1.2.2.1.symm) d0 d3 d4 d6 d9 (fun x hx => (htab x hx).elim) hRf hRl hRc hRs M.2.1 (fun t ht h1 h2 => ?_) hS.2.2 hc hs
  refine ⟨u, trivial, ⟨hp, ?_, va_K.moved ht E.2.1, hw ▸ hD⟩, ⟨Nat.le_trans hS.1 h1, fun q g1 g2 => (h2 q (Nat.lt_of_lt_of_le g1 hS.1)).trans (hS.2.1 q g1 g2)⟩⟩
  rw [← hw]
  exact hP.kept (fun k q hk => h2 q.1 ((hP k q hk).lt))
end L9L
/-- the bits of x, counted as the JDK counts them -/
def bcE (x : Int32) : Int32 :=
  let sh : Int32 → Int32 → Int32 := fun y n => (y.toUInt32 >>> (n.toUInt32 &&& Int32.toUInt32 31)).toInt32
  let a := x - (sh x 1 &&& 1431655765)
  let b := (a &&& 858993459) + (sh a 2 &&& 858993459)
  let d := (b + sh b 4) &&& 252645135
  let f := d + sh d 8
  (f + sh f 16) &&& 63
theorem pI_upd : upd (upd (upd (upd (upd (upd (upd zI 0 60) 1 50) 2 10) 3 600) 4 5100) 14 2700) 21 (-1) = pI := by
  funext i
  unfold upd pI zI
  by_cases h0 : i = 0
  · subst h0; rfl
  by_cases h1 : i = 1
  · subst h1; rfl
  by_cases h2 : i = 2
  · subst h2; rfl
  by_cases h3 : i = 3
  · subst h3; rfl
  by_cases h4 : i = 4
  · subst h4; rfl
  by_cases h5 : i = 14
  · subst h5; rfl
  by_cases h6 : i = 21
  · subst h6; rfl
  simp only [h0, h1, h2, h3, h4, h5, h6, if_false]
