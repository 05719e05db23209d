/-! The start of the law. -/
def zL : Nat → Int64 := fun _ => 0
section L9S
variable {p : Program} {l : Launch} {e : Env} {R : Room} {s : State} {m : MethodId} {args : Array Value} {below : List Frame} {meth : Method} {c : Code} {H : Heap} {locs : List Loc} {cells slots : Nat} {Q : State → Prop} {cc : ByteArray} {pc nL : Nat} {ls : Array Slot} {rest : List Value} {D : va_G} {g : Nat → ClassId} {A : Nat → Prop} {ws : va_W} {own : String} {H0 : Heap} {a : Nat}
theorem g_newl (E : Ev p s m args c cc nL own D g) (hP : va_P D vwCl ws H) (hD : va_D A ws) (hS : va_S A H0 H locs) (hA : ∀ q, H0.size ≤ q → A q) {n : Int32} (N' : Nat) (hn : ¬ n < 0) (hN : n.toNatClampNeg = N') (hb : N' * 8 ≤ 536870912) (hcells : cells + 1 ≤ R.cells) (hslots : slots + N' ≤ R.slots) (hdg : decode cc pc = .ok (.newarray .long, 2))
    (kk : ∀ (q : Nat) (H1 : Heap), va_P D vwCl (ws ++ [(q, .inl (g 4, N', .inr (.inl zL)))]) H1 → va_D A (ws ++ [(q, .inl (g 4, N', .inr (.inl zL)))]) → va_S A H0 H1 locs → W p l e R s m args below meth c H1 locs (cells + 1) (slots + N') Q (F0 m (pc + 2) ls (.ref q :: rest))) : W p l e R s m args below meth c H locs cells slots Q (F0 m pc ls (.int n :: rest)) := by
  refine va_newa E.1.1 E.1.2.1 (atype := .long) (E.1.2.2.2.2 _ wm_1267) rfl E.2.1 hP hD hS hA (a0 := (N', .inr (.inl zL))) (fun cA => rfl) hn hN hb hcells hslots hdg (fun q cA H1 k1 k2 k3 k4 => ?_)
  have h1 : s.vm.findClass ("[" ++ FieldType.long.toString) = some cA := (k1.2 5 _ rfl).2
  have h2 : s.vm.findClass ("[" ++ FieldType.long.toString) = some (g 4) := (k1.2 4 _ rfl).2
  obtain rfl : g 4 = cA := Option.some.inj (h2.symm.trans h1)
  exact kk q H1 k2 k3 k4
end L9S
section L9T
variable {p : Program} {l : Launch} {e : Env} {R : Room} {s : State} {m : MethodId} {args : Array Value} {below : List Frame} {meth : Method} {c : Code} {H H0 : Heap} {locs : List Loc} {cells slots : Nat} {Q : State → Prop} {cc : ByteArray} {pc nL : Nat} {ls : Array Slot} {rest : List Value} {D : va_G} {g : Nat → ClassId} {A : Nat → Prop} {ws : va_W} {a : Nat}
variable {wc wr : va_W} {rm : Room} {mc ms : Nat} {As st0 : List Value} {b : Nat}
theorem cs_L_81 {S : Type} {post : S → Prop} {wf wn : S → va_W} {isC isR isP : List Nat} (E : Ev p s m args c cc nL RL D g) (hS : va_S A s.heap H locs) (hA : ∀ q, s.heap.size ≤ q → A q) (hZ : SF A s s.heap) (hP : va_P D vwCl ws H) (hD : va_D A ws) (X : Cut ws wc wr wf wn isC isR isP) (hM : Met l yX7_init (Cond.code yX7_init prog_1_method_1_code 2 none :: WA) rm (va_Pc (.ref b :: As) (PreZ D g wc H.size)) (va_Qv post (fun u t => Bp D g (va_A wc H.size) (wf u) t) (va_A wc H.size)) mc ms (va_A wc H.size)) (hR : rm.frames + 1 ≤ R.frames ∧ 8 + (2 + 11) + rm.locals ≤ R.locals) (hrc : rm.cells = mc) (hrs : rm.slots = ms) (hn : As.length = 0) (hsz : ls.size = nL) (hst0 : st0 = As.reverse ++ .ref b :: rest) (hst : (rest.map fun v => v.category).sum ≤ 8) (hf : cells + mc ≤ R.cells ∧ slots + ms ≤ R.slots) (hdg : decode cc pc = .ok (.invokespecial 81, 3)) (kk : ∀ (u : S) (H1 : Heap) (locs1 : List Loc), post u → va_P D vwCl (wn u) H1 → va_D A (wn u) → va_S A s.heap H1 locs1 → W p l e R s m args below meth c H1 locs1 (cells + mc) (slots + ms) Q (F0 m (pc + 3) ls (rest))) : W p l e R s m args below meth c H locs cells slots Q (F0 m pc ls st0) :=
  g_callv hS hA hP hD X (fun hPc hDc => va_runI E.1 hM ⟨(g_cb E wm_24 wm_1 (E.1.2.2.2.2 _ wm_22) hrc hrs ⟨by decide, by decide, by decide⟩ hR), rfl, E.1.2.2.2.2 _ wm_23⟩ ⟨pre_blindS, pre_giveS hPc (hD.sub isC X.2.2.1 X.1) E.2.1 E.2.2 hZ hS (va_free hD hS hA isC X.1)⟩ rfl hn hsz hst0 (lv_room hst) hdg hf) kk
end L9T
