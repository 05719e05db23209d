/-! The script. -/
abbrev PreY (D : va_G) (g : Nat → ClassId) (sz : Nat) (bs NL : Nat) (xs : Nat → Int32) (U : State) : Prop := Pre D g [] sz U ∧ va_X bs NL xs U U.heap ∧ bs < sz
theorem pre_blindY {D : va_G} {g : Nat → ClassId} {sz bs NL : Nat} {xs : Nat → Int32} {av : List Value} : FrameBlind (va_Pc av (PreY D g sz bs NL xs)) := fun a U f mk q => by
  obtain ⟨q0, q1, qX, qb⟩ := q
  obtain ⟨p0, p1⟩ := pre_blind (av := av) (D := D) (g := g) (ws := []) (sz := sz) a U f mk ⟨q0, q1⟩
  exact ⟨p0, p1, va_X.moved (u := U) (U := U.calling f mk a) (Vm.Alike.refl U.vm) qX, qb⟩
theorem pre_giveY {D : va_G} {g : Nat → ClassId} {av : List Value} {A : Nat → Prop} {H : Heap} {s : State} {locs : List Loc} {bs NL : Nat} {xs : Nat → Int32} (hP : va_P D vwCl [] H) (hD : va_D A []) (hK : va_K D vwCl (tyL g) s) (hN : NW s) (hXs : va_X bs NL xs s s.heap) (hbl : bs < s.heap.size) (hbA : ¬ A bs) (hS : va_S A s.heap H locs) : ∀ U : State, U.heap = H → s.WarmedH U.vm → va_Pc av (PreY D g H.size bs NL xs) av.toArray U := fun U hU hW => by
  obtain ⟨p0, p1⟩ := pre_give (av := av) hP hD hK hN U hU hW
  exact ⟨p0, p1, by rw [hU]; exact va_X.moved hW.alike (hXs.kept (hS.2.1 bs hbl hbA)), Nat.lt_of_lt_of_le hbl hS.1⟩
theorem g_metY {l : Launch} {y : MethodName} {cc : ByteArray} {maxL : Nat} {ret : Option FieldType} {rm : Room} {av : List Value} {D : va_G} {g : Nat → ClassId} {bs NL : Nat} {xs : Nat → Int32} {sz : Nat} {QcA : (Nat → Prop) → Array Value → State → Outcome → State → Prop} {mc ms : Nat} (hy : plainName y.cls = true) (hlen : (lg_sl av).length ≤ maxL)
    (body : ∀ (p : Program) (e : Env) (s : State) (m : MethodId) (below : List Frame) (meth : Method) (c : Code) (A : Nat → Prop) (Q : State → Prop) (ls : Array Slot), va_X bs NL xs s s.heap → bs < s.heap.size → ¬ A bs → Ev p s m av.toArray c cc maxL y.cls D g → (meth.sig.returnType = ret ∧ meth.locks = false ∧ meth.name = y.name) → va_P D vwCl [] s.heap → va_D A [] → va_S A s.heap s.heap [] → (∀ q, s.heap.size ≤ q → A q) → Q = MQ below (QcA A) av.toArray s mc ms A → lv_has ls maxL (lv_args 0 av) → W p l e rm s m av.toArray below meth c s.heap [] 0 0 Q (F0 m 0 ls [])) :
    Met l y (Cond.code y cc maxL ret :: WA) rm (va_Pc av (PreY D g sz bs NL xs)) (QcA (va_A [] sz)) mc ms (va_A [] sz) := by
  refine Met.ofW (cc := cc) (maxL := maxL) (ret := ret) hy rfl ?_
  intro p e s m args below meth c s₁ B hml hv
  obtain ⟨rfl, ⟨hsz, hP, hK, hD0, hN⟩, hXs, hbl⟩ := hv
  have hts := atoms_spec (ws := Cond.code y cc maxL ret :: WA) B.pre
  have hown : s.vm.findClass y.cls = some m.cls := findClass_of_methodNamed B.named
  have hin : meth.name = y.name := (name_of_methodNamed B.named B.method).1
  subst hsz
  have hl := lv_entry av (n := maxL) hlen
  rw [lg_entry_eq]
  exact body p e s m below meth c (va_A [] s.heap.size) _ _ hXs hbl (fun z => z.elim (fun ⟨k, e, h⟩ => by simp at h) (fun h => absurd hbl (Nat.not_lt.mpr h))) ⟨⟨B.exec, B.bytes, hml, hown, fun w hw => hts w (List.mem_cons_of_mem _ hw)⟩, hK, hN⟩ ⟨B.returns, B.notSynchronized, hin⟩ hP hD0.self va_S.rf (fun q h => Or.inr h) rfl hl
theorem g_sld {p : Program} {l : Launch} {e : Env} {R : Room} {s : State} {m : MethodId} {args : Array Value} {below : List Frame} {meth : Method} {c : Code} {H : Heap} {locs : List Loc} {cells slots : Nat} {Q : State → Prop} {cc : ByteArray} {pc nL : Nat} {ls : Array Slot} {rest : List Value} {D : va_G} {g : Nat → ClassId} {A : Nat → Prop} {own : String} (E : Ev p s m args c cc nL own D g) {b0 N : Nat} {xs : Nat → Int32} (hX : va_X b0 N xs s s.heap) (hbl : b0 < s.heap.size) (hbA : ¬ A b0) (hS : va_S A s.heap H locs) {i : Int32} (j : Nat) (hi : i = nI j) (hj : j < N) (hn : N < 2 ^ 31) (hdg : decode cc pc = .ok (.iaload, 1))
    (kk : W p l e R s m args below meth c H locs cells slots Q (F0 m (pc + 1) ls (.int (xs j) :: rest))) : W p l e R s m args below meth c H locs cells slots Q (F0 m pc ls (.int i :: .ref b0 :: rest)) := by
  refine va_sld E.1.1 E.1.2.1 hX hbl hbA hS (nI_vp hi hj hn) hdg ?_
  rw [nI_cl hi hj hn]; exact kk
section L9V
variable {p : Program} {l : Launch} {e : Env} {R : Room} {s : State} {m : MethodId} {args : Array Value} {below : List Frame} {meth : Method} {c : Code} {H H0 : Heap} {locs : List Loc} {cells slots : Nat} {Q : State → Prop} {cc : ByteArray} {pc nL : Nat} {ls : Array Slot} {rest : List Value} {D : va_G} {g : Nat → ClassId} {A : Nat → Prop} {ws : va_W} {a : Nat}
variable {wc wr : va_W} {rm : Room} {mc ms : Nat} {As st0 : List Value} {b : Nat}
theorem cy_L_137 {bs NL : Nat} {xs : Nat → Int32} {S : Type} {post : Int32 → S → Prop} {wf wn : S → va_W} {isC isR isP : List Nat} (E : Ev p s m args c cc nL RL D g) (hXs : va_X bs NL xs s s.heap) (hbl : bs < s.heap.size) (hbA : ¬ A bs) (hS : va_S A s.heap H locs) (hA : ∀ q, s.heap.size ≤ q → A q) (hP : va_P D vwCl ws H) (hD : va_D A ws) (X : Cut ws wc wr wf wn isC isR isP) (hM : Met l yL_lot (Cond.code yL_lot method_2_code 2 (some .int) :: WA) rm (va_Pc As (PreY D g H.size bs NL xs)) (va_Qi post (fun u t => Bp D g (va_A wc H.size) (wf u) t) (va_A wc H.size)) mc ms (va_A wc H.size)) (hR : rm.frames + 1 ≤ R.frames ∧ 8 + (2 + 11) + rm.locals ≤ R.locals) (hrc : rm.cells = mc) (hrs : rm.slots = ms) (hn : As.length = 2) (hsz : ls.size = nL) (hst0 : st0 = As.reverse ++ rest) (hst : (rest.map fun v => v.category).sum ≤ 8) (hf : cells + mc ≤ R.cells ∧ slots + ms ≤ R.slots) (hdg : decode cc pc = .ok (.invokestatic 137, 3)) (kk : ∀ (r : Int32) (u : S) (H1 : Heap) (locs1 : List Loc), post r u → va_P D vwCl (wn u) H1 → va_D A (wn u) → va_S A s.heap H1 locs1 → W p l e R s m args below meth c H1 locs1 (cells + mc) (slots + ms) Q (F0 m (pc + 3) ls (.int r :: rest))) : W p l e R s m args below meth c H locs cells slots Q (F0 m pc ls st0) :=
  g_calli hS hA hP hD X (fun _ _ => va_runS E.1 hM ⟨(g_cb E wm_410 wm_0 (E.1.2.2.2.2 _ wm_408) hrc hrs ⟨by decide, by decide, by decide⟩ hR), E.1.2.2.2.2 _ wm_409⟩ ⟨pre_blindY, pre_giveY (fun k q h => by simp at h) ⟨fun i j p q h => by simp at h, fun k q h => by simp at h⟩ E.2.1 E.2.2 hXs hbl hbA hS⟩ rfl hn hsz hst0 (lv_room hst) hdg hf) kk
theorem cs_L_127 {S : Type} {post : S → Prop} {wf wn : S → va_W} {isC isR isP : List Nat} (E : Ev p s m args c cc nL RL D g) (hS : va_S A s.heap H locs) (hA : ∀ q, s.heap.size ≤ q → A q) (hZ : SF A s s.heap) (hP : va_P D vwCl ws H) (hD : va_D A ws) (X : Cut ws wc wr wf wn isC isR isP) (hM : Met l yX7_init (Cond.code yX7_init prog_1_method_1_code 2 none :: WA) rm (va_Pc (.ref b :: As) (PreZ D g wc H.size)) (va_Qv post (fun u t => Bp D g (va_A wc H.size) (wf u) t) (va_A wc H.size)) mc ms (va_A wc H.size)) (hR : rm.frames + 1 ≤ R.frames ∧ 8 + (2 + 11) + rm.locals ≤ R.locals) (hrc : rm.cells = mc) (hrs : rm.slots = ms) (hn : As.length = 0) (hsz : ls.size = nL) (hst0 : st0 = As.reverse ++ .ref b :: rest) (hst : (rest.map fun v => v.category).sum ≤ 8) (hf : cells + mc ≤ R.cells ∧ slots + ms ≤ R.slots) (hdg : decode cc pc = .ok (.invokespecial 127, 3)) (kk : ∀ (u : S) (H1 : Heap) (locs1 : List Loc), post u → va_P D vwCl (wn u) H1 → va_D A (wn u) → va_S A s.heap H1 locs1 → W p l e R s m args below meth c H1 locs1 (cells + mc) (slots + ms) Q (F0 m (pc + 3) ls (rest))) : W p l e R s m args below meth c H locs cells slots Q (F0 m pc ls st0) :=
  g_callv hS hA hP hD X (fun hPc hDc => va_runI E.1 hM ⟨(g_cb E wm_22 wm_1 (E.1.2.2.2.2 _ wm_20) hrc hrs ⟨by decide, by decide, by decide⟩ hR), rfl, E.1.2.2.2.2 _ wm_21⟩ ⟨pre_blindS, pre_giveS hPc (hD.sub isC X.2.2.1 X.1) E.2.1 E.2.2 hZ hS (va_free hD hS hA isC X.1)⟩ rfl hn hsz hst0 (lv_room hst) hdg hf) kk
end L9V
abbrev rm_L_lot : Room := { frames := 0, cells := 0, slots := 0, locals := 0 }
set_option maxHeartbeats 600000 in
set_option maxRecDepth 100000 in
theorem CL_lot (l : Launch) (D : va_G) (g : Nat → ClassId) (sz : Nat) (bs NL : Nat) (xs : Nat → Int32) (k : Nat) (hk31 : k < 2 ^ 31) (hN31 : NL < 2 ^ 31) : Met l yL_lot (Cond.code yL_lot method_2_code 2 (some .int) :: WA) rm_L_lot (va_Pc [.ref bs, .int (nI k)] (PreY D g sz bs NL xs)) (va_Qi (fun (r : Int32) (_ : Unit) => True) (fun (_ : Unit) t => Bp D g (va_A ([]) sz) ([]) t) (va_A ([]) sz)) 0 0 (va_A ([]) sz) := by
  refine g_metY (av := [.ref bs, .int (nI k)]) (QcA := fun A => va_Qi (fun (r : Int32) (_ : Unit) => True) (fun (_ : Unit) t => Bp D g A ([]) t) A) rfl (Nat.le_of_ble_eq_true rfl) ?_
  intro p e s m below meth c A Q ls hXs hbl hbA E M hP hD hS hA hQ hl
  have hx := E.1.1
  have hb := E.1.2.1
  have hl : lv_has ls 2 [(0, .ref bs), (1, .int (nI k))] := hl
  refine lv_iload_n hx hb dL_lot_0 rfl (lv_at hl 1 rfl) ?_
  refine lv_aload_n hx hb dL_lot_1 rfl (lv_at hl 0 rfl) ?_
  refine va_slen E.1.1 E.1.2.1 hXs hbl hbA hS dL_lot_2 ?_
  refine lv_icmp_ge (tgt := 12) hx hb dL_lot_3 (by decide) (fun c_3 => ?_) (fun c_3 => ?_)
  · skip
    refine gk_L_7 E dL_lot_12 ?_
    refine lv_iload_n hx hb dL_lot_14 rfl (lv_at hl 1 rfl) ?_
    refine lv_sipush (v := 2441) hx hb dL_lot_15 (by decide) ?_
    refine lv_iadd hx hb dL_lot_18 ?_
    refine lv_imul hx hb dL_lot_19 ?_
    refine lv_sipush (v := 2251) hx hb dL_lot_20 (by decide) ?_
    refine lv_iadd hx hb dL_lot_23 ?_
    exact g_iret hQ E M rfl hS hP hD () rfl (trivial) dL_lot_24
  · skip
    refine lv_aload_n hx hb dL_lot_6 rfl (lv_at hl 0 rfl) ?_
    refine lv_iload_n hx hb dL_lot_7 rfl (lv_at hl 1 rfl) ?_
    have hkn : k < NL := nI_nle_of c_3 (by omega) (by omega)
    refine g_sld E hXs hbl hbA hS k rfl (by omega) (by omega) dL_lot_8 ?_
    refine lv_goto (tgt := 24) hx hb dL_lot_9 (by decide) ?_
    exact g_iret hQ E M rfl hS hP hD () rfl (trivial) dL_lot_24
