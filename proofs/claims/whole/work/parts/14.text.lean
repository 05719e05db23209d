abbrev rm_X2_rewind : Room := { frames := 0, cells := 0, slots := 0, locals := 0 }
set_option maxHeartbeats 600000 in
set_option maxRecDepth 100000 in
theorem CX2_rewind (l : Launch) (D : va_G) (g : Nat → ClassId) (sz : Nat) (a b L : Nat) (e0 : Int32) (i0 : Int32) (kd f1 f2 f3 : Int32) (tx : Nat → Int32) : Met l yX2_rewind (Cond.code yX2_rewind prog_4_method_4_code 1 none :: WA) rm_X2_rewind (va_Pc [.ref a] (Pre D g ([(a, .inr (2, [.ref b, .int (nI L), .int i0, .int e0, .int kd, .int f1, .int f2, .int f3])), (b, .inl (g 0, 100, .inl tx))]) sz)) (va_Qv (fun (_ : Unit) => True) (fun (_ : Unit) t => Bp D g (va_A ([(a, .inr (2, [.ref b, .int (nI L), .int i0, .int e0, .int kd, .int f1, .int f2, .int f3])), (b, .inl (g 0, 100, .inl tx))]) sz) ([(a, .inr (2, [.ref b, .int (nI L), .int (nI 0), .int (optI none), .int kd, .int f1, .int f2, .int f3])), (b, .inl (g 0, 100, .inl tx))]) t) (va_A ([(a, .inr (2, [.ref b, .int (nI L), .int i0, .int e0, .int kd, .int f1, .int f2, .int f3])), (b, .inl (g 0, 100, .inl tx))]) sz)) 0 0 (va_A ([(a, .inr (2, [.ref b, .int (nI L), .int i0, .int e0, .int kd, .int f1, .int f2, .int f3])), (b, .inl (g 0, 100, .inl tx))]) sz) := by
  refine g_met (av := [.ref a]) (QcA := fun A => va_Qv (fun (_ : Unit) => True) (fun (_ : Unit) t => Bp D g A ([(a, .inr (2, [.ref b, .int (nI L), .int (nI 0), .int (optI none), .int kd, .int f1, .int f2, .int f3])), (b, .inl (g 0, 100, .inl tx))]) t) A) rfl (Nat.le_of_ble_eq_true rfl) ?_
  intro p e s m below meth c A Q ls E M hP hD hS hA hQ hl
  have hx := E.1.1
  have hb := E.1.2.1
  have hl : lv_has ls 1 [(0, .ref a)] := hl
  refine lv_aload_n hx hb dX2_rewind_0 rfl (lv_at hl 0 rfl) ?_
  refine lv_iconst (v := 0) hx hb dX2_rewind_1 (by decide) ?_
  refine gp_X2_19 E hP hD hS 0 rfl rfl rfl (Nat.le_of_ble_eq_true rfl) dX2_rewind_2 (fun H locs hP hD hS => ?_)
  have hP : va_P D vwCl ([(a, .inr (2, [.ref b, .int (nI L), .int 0, .int e0, .int kd, .int f1, .int f2, .int f3])), (b, .inl (g 0, 100, .inl tx))]) H := hP
  have hD : va_D A ([(a, .inr (2, [.ref b, .int (nI L), .int 0, .int e0, .int kd, .int f1, .int f2, .int f3])), (b, .inl (g 0, 100, .inl tx))]) := hD
  refine lv_aload_n hx hb dX2_rewind_5 rfl (lv_at hl 0 rfl) ?_
  refine lv_iconst (v := (-1)) hx hb dX2_rewind_6 (by decide) ?_
  refine gp_X2_22 E hP hD hS 0 rfl rfl rfl (Nat.le_of_ble_eq_true rfl) dX2_rewind_7 (fun H locs hP hD hS => ?_)
  have hP : va_P D vwCl ([(a, .inr (2, [.ref b, .int (nI L), .int 0, .int (-1), .int kd, .int f1, .int f2, .int f3])), (b, .inl (g 0, 100, .inl tx))]) H := hP
  have hD : va_D A ([(a, .inr (2, [.ref b, .int (nI L), .int 0, .int (-1), .int kd, .int f1, .int f2, .int f3])), (b, .inl (g 0, 100, .inl tx))]) := hD
  exact g_vret hQ E M rfl hS hP hD () rfl (trivial) dX2_rewind_10
abbrev rm_X2_put : Room := { frames := 0, cells := 0, slots := 0, locals := 0 }
set_option maxHeartbeats 600000 in
set_option maxRecDepth 100000 in
theorem CX2_put (l : Launch) (D : va_G) (g : Nat → ClassId) (sz : Nat) (a b L : Nat) (e0 i0 : Int32) (kd f1 f2 f3 : Int32) (tx : Nat → Int32) (v : Int32) (hL : L < 100) : Met l yX2_put (Cond.code yX2_put prog_4_method_2_code 2 (some .int) :: WA) rm_X2_put (va_Pc [.ref a, .int v] (Pre D g ([(a, .inr (2, [.ref b, .int (nI L), .int i0, .int e0, .int kd, .int f1, .int f2, .int f3])), (b, .inl (g 0, 100, .inl tx))]) sz)) (va_Qi (fun (r : Int32) (_ : Unit) => r = (nI (L + 1))) (fun (_ : Unit) t => Bp D g (va_A ([(a, .inr (2, [.ref b, .int (nI L), .int i0, .int e0, .int kd, .int f1, .int f2, .int f3])), (b, .inl (g 0, 100, .inl tx))]) sz) ([(a, .inr (2, [.ref b, .int (nI (L + 1)), .int i0, .int e0, .int kd, .int f1, .int f2, .int f3])), (b, .inl (g 0, 100, .inl (upd tx L v)))]) t) (va_A ([(a, .inr (2, [.ref b, .int (nI L), .int i0, .int e0, .int kd, .int f1, .int f2, .int f3])), (b, .inl (g 0, 100, .inl tx))]) sz)) 0 0 (va_A ([(a, .inr (2, [.ref b, .int (nI L), .int i0, .int e0, .int kd, .int f1, .int f2, .int f3])), (b, .inl (g 0, 100, .inl tx))]) sz) := by
  refine g_met (av := [.ref a, .int v]) (QcA := fun A => va_Qi (fun (r : Int32) (_ : Unit) => r = (nI (L + 1))) (fun (_ : Unit) t => Bp D g A ([(a, .inr (2, [.ref b, .int (nI (L + 1)), .int i0, .int e0, .int kd, .int f1, .int f2, .int f3])), (b, .inl (g 0, 100, .inl (upd tx L v)))]) t) A) rfl (Nat.le_of_ble_eq_true rfl) ?_
  intro p e s m below meth c A Q ls E M hP hD hS hA hQ hl
  have hx := E.1.1
  have hb := E.1.2.1
  have hl : lv_has ls 2 [(0, .ref a), (1, .int v)] := hl
  refine lv_aload_n hx hb dX2_put_0 rfl (lv_at hl 0 rfl) ?_
  refine gf_X2_9 E hP 0 rfl rfl dX2_put_1 ?_
  refine lv_aload_n hx hb dX2_put_4 rfl (lv_at hl 0 rfl) ?_
  refine gf_X2_15 E hP 0 rfl rfl dX2_put_5 ?_
  refine lv_iload_n hx hb dX2_put_8 rfl (lv_at hl 1 rfl) ?_
  refine g_iast E hP hD hS 1 rfl L rfl (by omega) (Nat.le_of_ble_eq_true rfl) dX2_put_9 (fun H locs hP hD hS => ?_)
  have hP : va_P D vwCl ([(a, .inr (2, [.ref b, .int (nI L), .int i0, .int e0, .int kd, .int f1, .int f2, .int f3])), (b, .inl (g 0, 100, .inl (upd tx L v)))]) H := hP
  have hD : va_D A ([(a, .inr (2, [.ref b, .int (nI L), .int i0, .int e0, .int kd, .int f1, .int f2, .int f3])), (b, .inl (g 0, 100, .inl (upd tx L v)))]) := hD
  refine lv_aload_n hx hb dX2_put_10 rfl (lv_at hl 0 rfl) ?_
  refine lv_dup hx hb dX2_put_11 rfl ?_
  refine gf_X2_15 E hP 0 rfl rfl dX2_put_12 ?_
  refine lv_iconst (v := 1) hx hb dX2_put_15 (by decide) ?_
  refine lv_iadd hx hb dX2_put_16 ?_
  refine g_top (w := .int (nI (L + 1))) (congrArg Value.int (ix_add rfl rfl)) ?_
  refine gp_X2_15 E hP hD hS 0 rfl rfl rfl (Nat.le_of_ble_eq_true rfl) dX2_put_17 (fun H locs hP hD hS => ?_)
  have hP : va_P D vwCl ([(a, .inr (2, [.ref b, .int (nI (L + 1)), .int i0, .int e0, .int kd, .int f1, .int f2, .int f3])), (b, .inl (g 0, 100, .inl (upd tx L v)))]) H := hP
  have hD : va_D A ([(a, .inr (2, [.ref b, .int (nI (L + 1)), .int i0, .int e0, .int kd, .int f1, .int f2, .int f3])), (b, .inl (g 0, 100, .inl (upd tx L v)))]) := hD
  refine lv_aload_n hx hb dX2_put_20 rfl (lv_at hl 0 rfl) ?_
  refine gf_X2_15 E hP 0 rfl rfl dX2_put_21 ?_
  exact g_iret hQ E M rfl hS hP hD () rfl (rfl) dX2_put_24
abbrev rm_X2_fail : Room := { frames := 0, cells := 0, slots := 0, locals := 0 }
set_option maxHeartbeats 600000 in
set_option maxRecDepth 100000 in
theorem CX2_fail (l : Launch) (D : va_G) (g : Nat → ClassId) (sz : Nat) (a b L i : Nat) (o : Option Nat) (kd f1 f2 f3 : Int32) (tx : Nat → Int32) (k : Nat) (he : ∀ q, o = some q → q ≤ 100) : Met l yX2_fail (Cond.code yX2_fail prog_4_method_7_code 2 none :: WA) rm_X2_fail (va_Pc [.ref a, .int (nI k)] (Pre D g ([(a, .inr (2, [.ref b, .int (nI L), .int (nI i), .int (optI o), .int kd, .int f1, .int f2, .int f3])), (b, .inl (g 0, 100, .inl tx))]) sz)) (va_Qv (fun (_ : Unit) => True) (fun (_ : Unit) t => Bp D g (va_A ([(a, .inr (2, [.ref b, .int (nI L), .int (nI i), .int (optI o), .int kd, .int f1, .int f2, .int f3])), (b, .inl (g 0, 100, .inl tx))]) sz) ([(a, .inr (2, [.ref b, .int (nI L), .int (nI i), .int (optI (flF o k)), .int kd, .int f1, .int f2, .int f3])), (b, .inl (g 0, 100, .inl tx))]) t) (va_A ([(a, .inr (2, [.ref b, .int (nI L), .int (nI i), .int (optI o), .int kd, .int f1, .int f2, .int f3])), (b, .inl (g 0, 100, .inl tx))]) sz)) 0 0 (va_A ([(a, .inr (2, [.ref b, .int (nI L), .int (nI i), .int (optI o), .int kd, .int f1, .int f2, .int f3])), (b, .inl (g 0, 100, .inl tx))]) sz) := by
  refine g_met (av := [.ref a, .int (nI k)]) (QcA := fun A => va_Qv (fun (_ : Unit) => True) (fun (_ : Unit) t => Bp D g A ([(a, .inr (2, [.ref b, .int (nI L), .int (nI i), .int (optI (flF o k)), .int kd, .int f1, .int f2, .int f3])), (b, .inl (g 0, 100, .inl tx))]) t) A) rfl (Nat.le_of_ble_eq_true rfl) ?_
  intro p e s m below meth c A Q ls E M hP hD hS hA hQ hl
  have hx := E.1.1
  have hb := E.1.2.1
  have hl : lv_has ls 2 [(0, .ref a), (1, .int (nI k))] := hl
  refine lv_aload_n hx hb dX2_fail_0 rfl (lv_at hl 0 rfl) ?_
  refine gf_X2_22 E hP 0 rfl rfl dX2_fail_1 ?_
  refine lv_iconst (v := (-1)) hx hb dX2_fail_4 (by decide) ?_
  refine lv_icmp_ne (tgt := 13) hx hb dX2_fail_5 (by decide) (fun c_5 => ?_) (fun c_5 => ?_)
  · skip
    exact g_vret hQ E M rfl hS hP hD () (by rw [flF_t c_5]) (trivial) dX2_fail_13
  · skip
    refine lv_aload_n hx hb dX2_fail_8 rfl (lv_at hl 0 rfl) ?_
    refine lv_iload_n hx hb dX2_fail_9 rfl (lv_at hl 1 rfl) ?_
    refine gp_X2_22 E hP hD hS 0 rfl rfl rfl (Nat.le_of_ble_eq_true rfl) dX2_fail_10 (fun H locs hP hD hS => ?_)
    have hP : va_P D vwCl ([(a, .inr (2, [.ref b, .int (nI L), .int (nI i), .int (nI k), .int kd, .int f1, .int f2, .int f3])), (b, .inl (g 0, 100, .inl tx))]) H := hP
    have hD : va_D A ([(a, .inr (2, [.ref b, .int (nI L), .int (nI i), .int (nI k), .int kd, .int f1, .int f2, .int f3])), (b, .inl (g 0, 100, .inl tx))]) := hD
    exact g_vret hQ E M rfl hS hP hD () (by rw [flF_f he c_5]; rfl) (trivial) dX2_fail_13
abbrev rm_X2_standsDigit : Room := { frames := 0, cells := 0, slots := 0, locals := 0 }
set_option maxHeartbeats 600000 in
set_option maxRecDepth 100000 in
theorem CX2_standsDigit (l : Launch) (D : va_G) (g : Nat → ClassId) (sz : Nat) (a b L i : Nat) (o : Option Nat) (kd f1 f2 f3 : Int32) (tx : Nat → Int32) (hL : L ≤ 100) (hi : i ≤ L) : Met l yX2_standsDigit (Cond.code yX2_standsDigit prog_4_method_8_code 1 (some .boolean) :: WA) rm_X2_standsDigit (va_Pc [.ref a] (Pre D g ([(a, .inr (2, [.ref b, .int (nI L), .int (nI i), .int (optI o), .int kd, .int f1, .int f2, .int f3])), (b, .inl (g 0, 100, .inl tx))]) sz)) (va_Qi (fun (r : Int32) (_ : Unit) => (r = 1 ∧ dgP tx L i) ∨ (r = 0 ∧ ¬ (dgP tx L i))) (fun (_ : Unit) t => Bp D g (va_A ([(a, .inr (2, [.ref b, .int (nI L), .int (nI i), .int (optI o), .int kd, .int f1, .int f2, .int f3])), (b, .inl (g 0, 100, .inl tx))]) sz) ([(a, .inr (2, [.ref b, .int (nI L), .int (nI i), .int (optI o), .int kd, .int f1, .int f2, .int f3])), (b, .inl (g 0, 100, .inl tx))]) t) (va_A ([(a, .inr (2, [.ref b, .int (nI L), .int (nI i), .int (optI o), .int kd, .int f1, .int f2, .int f3])), (b, .inl (g 0, 100, .inl tx))]) sz)) 0 0 (va_A ([(a, .inr (2, [.ref b, .int (nI L), .int (nI i), .int (optI o), .int kd, .int f1, .int f2, .int f3])), (b, .inl (g 0, 100, .inl tx))]) sz) := by
  refine g_met (av := [.ref a]) (QcA := fun A => va_Qi (fun (r : Int32) (_ : Unit) => (r = 1 ∧ dgP tx L i) ∨ (r = 0 ∧ ¬ (dgP tx L i))) (fun (_ : Unit) t => Bp D g A ([(a, .inr (2, [.ref b, .int (nI L), .int (nI i), .int (optI o), .int kd, .int f1, .int f2, .int f3])), (b, .inl (g 0, 100, .inl tx))]) t) A) rfl (Nat.le_of_ble_eq_true rfl) ?_
  intro p e s m below meth c A Q ls E M hP hD hS hA hQ hl
  have hx := E.1.1
  have hb := E.1.2.1
  have hl : lv_has ls 1 [(0, .ref a)] := hl
  refine lv_aload_n hx hb dX2_standsDigit_0 rfl (lv_at hl 0 rfl) ?_
  refine gf_X2_19 E hP 0 rfl rfl dX2_standsDigit_1 ?_
  refine lv_aload_n hx hb dX2_standsDigit_4 rfl (lv_at hl 0 rfl) ?_
  refine gf_X2_15 E hP 0 rfl rfl dX2_standsDigit_5 ?_
  refine lv_icmp_ge (tgt := 43) hx hb dX2_standsDigit_8 (by decide) (fun c_8 => ?_) (fun c_8 => ?_)
  · skip
    refine lv_iconst (v := 0) hx hb dX2_standsDigit_43 (by decide) ?_
    exact g_zret hQ E M rfl (Or.inl rfl) hS hP hD () rfl (Or.inr ⟨rfl, fun h => absurd h.1 (Nat.not_lt.mpr (nI_le_of c_8 (by omega) (by omega)))⟩) dX2_standsDigit_44
  · skip
    have hlt : i < L := nI_nle_of c_8 (by omega) (by omega)
    refine lv_aload_n hx hb dX2_standsDigit_11 rfl (lv_at hl 0 rfl) ?_
    refine gf_X2_9 E hP 0 rfl rfl dX2_standsDigit_12 ?_
    refine lv_aload_n hx hb dX2_standsDigit_15 rfl (lv_at hl 0 rfl) ?_
    refine gf_X2_19 E hP 0 rfl rfl dX2_standsDigit_16 ?_
    refine g_iald E hP 1 rfl i rfl (by omega) (Nat.le_of_ble_eq_true rfl) dX2_standsDigit_19 ?_
    refine lv_bipush (v := 48) hx hb dX2_standsDigit_20 (by decide) ?_
    refine lv_icmp_lt (tgt := 43) hx hb dX2_standsDigit_22 (by decide) (fun c_22 => ?_) (fun c_22 => ?_)
    · skip
      refine lv_iconst (v := 0) hx hb dX2_standsDigit_43 (by decide) ?_
      exact g_zret hQ E M rfl (Or.inl rfl) hS hP hD () rfl (Or.inr ⟨rfl, fun h => absurd c_22 (Int32.not_lt.mpr h.2.1)⟩) dX2_standsDigit_44
    · skip
      refine lv_aload_n hx hb dX2_standsDigit_25 rfl (lv_at hl 0 rfl) ?_
      refine gf_X2_9 E hP 0 rfl rfl dX2_standsDigit_26 ?_
      refine lv_aload_n hx hb dX2_standsDigit_29 rfl (lv_at hl 0 rfl) ?_
      refine gf_X2_19 E hP 0 rfl rfl dX2_standsDigit_30 ?_
      refine g_iald E hP 1 rfl i rfl (by omega) (Nat.le_of_ble_eq_true rfl) dX2_standsDigit_33 ?_
      refine lv_bipush (v := 57) hx hb dX2_standsDigit_34 (by decide) ?_
      refine lv_icmp_gt (tgt := 43) hx hb dX2_standsDigit_36 (by decide) (fun c_36 => ?_) (fun c_36 => ?_)
      · skip
        refine lv_iconst (v := 0) hx hb dX2_standsDigit_43 (by decide) ?_
        exact g_zret hQ E M rfl (Or.inl rfl) hS hP hD () rfl (Or.inr ⟨rfl, fun h => absurd c_36 (Int32.not_lt.mpr h.2.2)⟩) dX2_standsDigit_44
      · skip
        refine lv_iconst (v := 1) hx hb dX2_standsDigit_39 (by decide) ?_
        refine lv_goto (tgt := 44) hx hb dX2_standsDigit_40 (by decide) ?_
        exact g_zret hQ E M rfl (Or.inr rfl) hS hP hD () rfl (Or.inl ⟨rfl, ⟨hlt, Int32.not_lt.mp c_22, Int32.not_lt.mp c_36⟩⟩) dX2_standsDigit_44
abbrev rm_X2_skip : Room := { frames := 1, cells := 0, slots := 0, locals := 21 }
set_option maxHeartbeats 600000 in
set_option maxRecDepth 100000 in
theorem CX2_skip (l : Launch) (D : va_G) (g : Nat → ClassId) (sz : Nat) (a b L i : Nat) (o : Option Nat) (kd f1 f2 f3 : Int32) (tx : Nat → Int32) (v : Int32) (hL : L ≤ 100) (hi : i ≤ L) (he : ∀ q, o = some q → q ≤ 100) : Met l yX2_skip (Cond.code yX2_skip prog_4_method_9_code 2 none :: WA) rm_X2_skip (va_Pc [.ref a, .int v] (Pre D g ([(a, .inr (2, [.ref b, .int (nI L), .int (nI i), .int (optI o), .int kd, .int f1, .int f2, .int f3])), (b, .inl (g 0, 100, .inl tx))]) sz)) (va_Qv (fun (_ : Unit) => True) (fun (_ : Unit) t => Bp D g (va_A ([(a, .inr (2, [.ref b, .int (nI L), .int (nI i), .int (optI o), .int kd, .int f1, .int f2, .int f3])), (b, .inl (g 0, 100, .inl tx))]) sz) ([(a, .inr (2, [.ref b, .int (nI L), .int (nI (skF tx L v i o).1), .int (optI (skF tx L v i o).2), .int kd, .int f1, .int f2, .int f3])), (b, .inl (g 0, 100, .inl tx))]) t) (va_A ([(a, .inr (2, [.ref b, .int (nI L), .int (nI i), .int (optI o), .int kd, .int f1, .int f2, .int f3])), (b, .inl (g 0, 100, .inl tx))]) sz)) 0 0 (va_A ([(a, .inr (2, [.ref b, .int (nI L), .int (nI i), .int (optI o), .int kd, .int f1, .int f2, .int f3])), (b, .inl (g 0, 100, .inl tx))]) sz) := by
  refine g_met (av := [.ref a, .int v]) (QcA := fun A => va_Qv (fun (_ : Unit) => True) (fun (_ : Unit) t => Bp D g A ([(a, .inr (2, [.ref b, .int (nI L), .int (nI (skF tx L v i o).1), .int (optI (skF tx L v i o).2), .int kd, .int f1, .int f2, .int f3])), (b, .inl (g 0, 100, .inl tx))]) t) A) rfl (Nat.le_of_ble_eq_true rfl) ?_
  intro p e s m below meth c A Q ls E M hP hD hS hA hQ hl
  have hx := E.1.1
  have hb := E.1.2.1
  have hl : lv_has ls 2 [(0, .ref a), (1, .int v)] := hl
  refine lv_aload_n hx hb dX2_skip_0 rfl (lv_at hl 0 rfl) ?_
  refine gf_X2_22 E hP 0 rfl rfl dX2_skip_1 ?_
  refine lv_iconst (v := (-1)) hx hb dX2_skip_4 (by decide) ?_
  refine lv_icmp_ne (tgt := 32) hx hb dX2_skip_5 (by decide) (fun c_5 => ?_) (fun c_5 => ?_)
  · skip
    refine lv_aload_n hx hb dX2_skip_32 rfl (lv_at hl 0 rfl) ?_
    refine lv_aload_n hx hb dX2_skip_33 rfl (lv_at hl 0 rfl) ?_
    refine gf_X2_19 E hP 0 rfl rfl dX2_skip_34 ?_
    refine cl_X2_55 (As := [.int (nI i)]) (rest := []) (b := a) (wc := [(a, .inr (2, [.ref b, .int (nI L), .int (nI i), .int (optI o), .int kd, .int f1, .int f2, .int f3])), (b, .inl (g 0, 100, .inl tx))]) (wr := []) (wn := (fun _ => [(a, .inr (2, [.ref b, .int (nI L), .int (nI i), .int (optI (flF o i)), .int kd, .int f1, .int f2, .int f3])), (b, .inl (g 0, 100, .inl tx))])) (isC := [0, 1]) (isR := []) (isP := [0, 1]) E hS hA hP hD ⟨rfl, rfl, rfl, rfl, by decide, fun _ => rfl, rfl⟩ (CX2_fail l D g _ a b L i o kd f1 f2 f3 tx i (by repeat' (first | assumption | omega | (intro q h; cases h; done) | apply nmF_er | apply skF_er | apply rdF_er | apply bdF_er | apply flF_le | apply nmF_le | apply skF_le | apply rdF_le | apply bdF_le))) ⟨Nat.le_of_ble_eq_true rfl, Nat.le_of_ble_eq_true rfl⟩ rfl rfl 0 rfl rfl hl.1 rfl (Nat.le_of_ble_eq_true rfl) ⟨Nat.le_of_ble_eq_true rfl, Nat.le_of_ble_eq_true rfl⟩ dX2_skip_37 (fun u H locs hw hP hD hS => ?_)
    have hP : va_P D vwCl ([(a, .inr (2, [.ref b, .int (nI L), .int (nI i), .int (optI (flF o i)), .int kd, .int f1, .int f2, .int f3])), (b, .inl (g 0, 100, .inl tx))]) H := hP
    have hD : va_D A ([(a, .inr (2, [.ref b, .int (nI L), .int (nI i), .int (optI (flF o i)), .int kd, .int f1, .int f2, .int f3])), (b, .inl (g 0, 100, .inl tx))]) := hD
    exact g_vret hQ E M rfl hS hP hD () (by rw [skF_e c_5]) (trivial) dX2_skip_40
  · skip
    refine lv_aload_n hx hb dX2_skip_8 rfl (lv_at hl 0 rfl) ?_
    refine gf_X2_19 E hP 0 rfl rfl dX2_skip_9 ?_
    refine lv_aload_n hx hb dX2_skip_12 rfl (lv_at hl 0 rfl) ?_
    refine gf_X2_15 E hP 0 rfl rfl dX2_skip_13 ?_
    refine lv_icmp_ge (tgt := 32) hx hb dX2_skip_16 (by decide) (fun c_16 => ?_) (fun c_16 => ?_)
    · skip
      refine lv_aload_n hx hb dX2_skip_32 rfl (lv_at hl 0 rfl) ?_
      refine lv_aload_n hx hb dX2_skip_33 rfl (lv_at hl 0 rfl) ?_
      refine gf_X2_19 E hP 0 rfl rfl dX2_skip_34 ?_
      refine cl_X2_55 (As := [.int (nI i)]) (rest := []) (b := a) (wc := [(a, .inr (2, [.ref b, .int (nI L), .int (nI i), .int (optI o), .int kd, .int f1, .int f2, .int f3])), (b, .inl (g 0, 100, .inl tx))]) (wr := []) (wn := (fun _ => [(a, .inr (2, [.ref b, .int (nI L), .int (nI i), .int (optI (flF o i)), .int kd, .int f1, .int f2, .int f3])), (b, .inl (g 0, 100, .inl tx))])) (isC := [0, 1]) (isR := []) (isP := [0, 1]) E hS hA hP hD ⟨rfl, rfl, rfl, rfl, by decide, fun _ => rfl, rfl⟩ (CX2_fail l D g _ a b L i o kd f1 f2 f3 tx i (by repeat' (first | assumption | omega | (intro q h; cases h; done) | apply nmF_er | apply skF_er | apply rdF_er | apply bdF_er | apply flF_le | apply nmF_le | apply skF_le | apply rdF_le | apply bdF_le))) ⟨Nat.le_of_ble_eq_true rfl, Nat.le_of_ble_eq_true rfl⟩ rfl rfl 0 rfl rfl hl.1 rfl (Nat.le_of_ble_eq_true rfl) ⟨Nat.le_of_ble_eq_true rfl, Nat.le_of_ble_eq_true rfl⟩ dX2_skip_37 (fun u H locs hw hP hD hS => ?_)
      have hP : va_P D vwCl ([(a, .inr (2, [.ref b, .int (nI L), .int (nI i), .int (optI (flF o i)), .int kd, .int f1, .int f2, .int f3])), (b, .inl (g 0, 100, .inl tx))]) H := hP
      have hD : va_D A ([(a, .inr (2, [.ref b, .int (nI L), .int (nI i), .int (optI (flF o i)), .int kd, .int f1, .int f2, .int f3])), (b, .inl (g 0, 100, .inl tx))]) := hD
      exact g_vret hQ E M rfl hS hP hD () (by rw [skF_n (optN he c_5) (fun z => absurd z.1 (Nat.not_lt.mpr (nI_le_of c_16 (by omega) (by omega))))]) (trivial) dX2_skip_40
    · skip
      have hlt : i < L := nI_nle_of c_16 (by omega) (by omega)
      refine lv_aload_n hx hb dX2_skip_19 rfl (lv_at hl 0 rfl) ?_
      refine gf_X2_9 E hP 0 rfl rfl dX2_skip_20 ?_
      refine lv_aload_n hx hb dX2_skip_23 rfl (lv_at hl 0 rfl) ?_
      refine gf_X2_19 E hP 0 rfl rfl dX2_skip_24 ?_
      refine g_iald E hP 1 rfl i rfl (by omega) (Nat.le_of_ble_eq_true rfl) dX2_skip_27 ?_
      refine lv_iload_n hx hb dX2_skip_28 rfl (lv_at hl 1 rfl) ?_
      refine lv_icmp_eq (tgt := 41) hx hb dX2_skip_29 (by decide) (fun c_29 => ?_) (fun c_29 => ?_)
      · skip
        refine lv_aload_n hx hb dX2_skip_41 rfl (lv_at hl 0 rfl) ?_
        refine lv_dup hx hb dX2_skip_42 rfl ?_
        refine gf_X2_19 E hP 0 rfl rfl dX2_skip_43 ?_
        refine lv_iconst (v := 1) hx hb dX2_skip_46 (by decide) ?_
        refine lv_iadd hx hb dX2_skip_47 ?_
        refine g_top (w := .int (nI (i + 1))) (congrArg Value.int (ix_add rfl rfl)) ?_
        refine gp_X2_19 E hP hD hS 0 rfl rfl rfl (Nat.le_of_ble_eq_true rfl) dX2_skip_48 (fun H locs hP hD hS => ?_)
        have hP : va_P D vwCl ([(a, .inr (2, [.ref b, .int (nI L), .int (nI (i + 1)), .int (optI o), .int kd, .int f1, .int f2, .int f3])), (b, .inl (g 0, 100, .inl tx))]) H := hP
        have hD : va_D A ([(a, .inr (2, [.ref b, .int (nI L), .int (nI (i + 1)), .int (optI o), .int kd, .int f1, .int f2, .int f3])), (b, .inl (g 0, 100, .inl tx))]) := hD
        exact g_vret hQ E M rfl hS hP hD () (by rw [skF_y (optN he c_5) hlt c_29, optN he c_5]) (trivial) dX2_skip_51
      · skip
        refine lv_aload_n hx hb dX2_skip_32 rfl (lv_at hl 0 rfl) ?_
        refine lv_aload_n hx hb dX2_skip_33 rfl (lv_at hl 0 rfl) ?_
        refine gf_X2_19 E hP 0 rfl rfl dX2_skip_34 ?_
        refine cl_X2_55 (As := [.int (nI i)]) (rest := []) (b := a) (wc := [(a, .inr (2, [.ref b, .int (nI L), .int (nI i), .int (optI o), .int kd, .int f1, .int f2, .int f3])), (b, .inl (g 0, 100, .inl tx))]) (wr := []) (wn := (fun _ => [(a, .inr (2, [.ref b, .int (nI L), .int (nI i), .int (optI (flF o i)), .int kd, .int f1, .int f2, .int f3])), (b, .inl (g 0, 100, .inl tx))])) (isC := [0, 1]) (isR := []) (isP := [0, 1]) E hS hA hP hD ⟨rfl, rfl, rfl, rfl, by decide, fun _ => rfl, rfl⟩ (CX2_fail l D g _ a b L i o kd f1 f2 f3 tx i (by repeat' (first | assumption | omega | (intro q h; cases h; done) | apply nmF_er | apply skF_er | apply rdF_er | apply bdF_er | apply flF_le | apply nmF_le | apply skF_le | apply rdF_le | apply bdF_le))) ⟨Nat.le_of_ble_eq_true rfl, Nat.le_of_ble_eq_true rfl⟩ rfl rfl 0 rfl rfl hl.1 rfl (Nat.le_of_ble_eq_true rfl) ⟨Nat.le_of_ble_eq_true rfl, Nat.le_of_ble_eq_true rfl⟩ dX2_skip_37 (fun u H locs hw hP hD hS => ?_)
        have hP : va_P D vwCl ([(a, .inr (2, [.ref b, .int (nI L), .int (nI i), .int (optI (flF o i)), .int kd, .int f1, .int f2, .int f3])), (b, .inl (g 0, 100, .inl tx))]) H := hP
        have hD : va_D A ([(a, .inr (2, [.ref b, .int (nI L), .int (nI i), .int (optI (flF o i)), .int kd, .int f1, .int f2, .int f3])), (b, .inl (g 0, 100, .inl tx))]) := hD
        exact g_vret hQ E M rfl hS hP hD () (by rw [skF_n (optN he c_5) (fun z => c_29 z.2)]) (trivial) dX2_skip_40
abbrev rm_X2_readDigit : Room := { frames := 1, cells := 0, slots := 0, locals := 21 }
set_option maxHeartbeats 600000 in
set_option maxRecDepth 100000 in
theorem CX2_readDigit (l : Launch) (D : va_G) (g : Nat → ClassId) (sz : Nat) (a b L i : Nat) (o : Option Nat) (kd f1 f2 f3 : Int32) (tx : Nat → Int32) (v : Int32) (hL : L ≤ 100) (hi : i ≤ L) (he : ∀ q, o = some q → q ≤ 100) : Met l yX2_readDigit (Cond.code yX2_readDigit prog_4_method_10_code 2 (some .int) :: WA) rm_X2_readDigit (va_Pc [.ref a, .int v] (Pre D g ([(a, .inr (2, [.ref b, .int (nI L), .int (nI i), .int (optI o), .int kd, .int f1, .int f2, .int f3])), (b, .inl (g 0, 100, .inl tx))]) sz)) (va_Qi (fun (r : Int32) (_ : Unit) => r = (rdF tx L v i o).2.2) (fun (_ : Unit) t => Bp D g (va_A ([(a, .inr (2, [.ref b, .int (nI L), .int (nI i), .int (optI o), .int kd, .int f1, .int f2, .int f3])), (b, .inl (g 0, 100, .inl tx))]) sz) ([(a, .inr (2, [.ref b, .int (nI L), .int (nI (rdF tx L v i o).1), .int (optI (rdF tx L v i o).2.1), .int kd, .int f1, .int f2, .int f3])), (b, .inl (g 0, 100, .inl tx))]) t) (va_A ([(a, .inr (2, [.ref b, .int (nI L), .int (nI i), .int (optI o), .int kd, .int f1, .int f2, .int f3])), (b, .inl (g 0, 100, .inl tx))]) sz)) 0 0 (va_A ([(a, .inr (2, [.ref b, .int (nI L), .int (nI i), .int (optI o), .int kd, .int f1, .int f2, .int f3])), (b, .inl (g 0, 100, .inl tx))]) sz) := by
  refine g_met (av := [.ref a, .int v]) (QcA := fun A => va_Qi (fun (r : Int32) (_ : Unit) => r = (rdF tx L v i o).2.2) (fun (_ : Unit) t => Bp D g A ([(a, .inr (2, [.ref b, .int (nI L), .int (nI (rdF tx L v i o).1), .int (optI (rdF tx L v i o).2.1), .int kd, .int f1, .int f2, .int f3])), (b, .inl (g 0, 100, .inl tx))]) t) A) rfl (Nat.le_of_ble_eq_true rfl) ?_
  intro p e s m below meth c A Q ls E M hP hD hS hA hQ hl
  have hx := E.1.1
  have hb := E.1.2.1
  have hl : lv_has ls 2 [(0, .ref a), (1, .int v)] := hl
  refine lv_aload_n hx hb dX2_readDigit_0 rfl (lv_at hl 0 rfl) ?_
  refine gf_X2_22 E hP 0 rfl rfl dX2_readDigit_1 ?_
  refine lv_iconst (v := (-1)) hx hb dX2_readDigit_4 (by decide) ?_
  refine lv_icmp_ne (tgt := 31) hx hb dX2_readDigit_5 (by decide) (fun c_5 => ?_) (fun c_5 => ?_)
  · skip
    refine lv_aload_n hx hb dX2_readDigit_31 rfl (lv_at hl 0 rfl) ?_
    refine lv_aload_n hx hb dX2_readDigit_32 rfl (lv_at hl 0 rfl) ?_
    refine gf_X2_19 E hP 0 rfl rfl dX2_readDigit_33 ?_
    refine cl_X2_55 (As := [.int (nI i)]) (rest := []) (b := a) (wc := [(a, .inr (2, [.ref b, .int (nI L), .int (nI i), .int (optI o), .int kd, .int f1, .int f2, .int f3])), (b, .inl (g 0, 100, .inl tx))]) (wr := []) (wn := (fun _ => [(a, .inr (2, [.ref b, .int (nI L), .int (nI i), .int (optI (flF o i)), .int kd, .int f1, .int f2, .int f3])), (b, .inl (g 0, 100, .inl tx))])) (isC := [0, 1]) (isR := []) (isP := [0, 1]) E hS hA hP hD ⟨rfl, rfl, rfl, rfl, by decide, fun _ => rfl, rfl⟩ (CX2_fail l D g _ a b L i o kd f1 f2 f3 tx i (by repeat' (first | assumption | omega | (intro q h; cases h; done) | apply nmF_er | apply skF_er | apply rdF_er | apply bdF_er | apply flF_le | apply nmF_le | apply skF_le | apply rdF_le | apply bdF_le))) ⟨Nat.le_of_ble_eq_true rfl, Nat.le_of_ble_eq_true rfl⟩ rfl rfl 0 rfl rfl hl.1 rfl (Nat.le_of_ble_eq_true rfl) ⟨Nat.le_of_ble_eq_true rfl, Nat.le_of_ble_eq_true rfl⟩ dX2_readDigit_36 (fun u H locs hw hP hD hS => ?_)
    have hP : va_P D vwCl ([(a, .inr (2, [.ref b, .int (nI L), .int (nI i), .int (optI (flF o i)), .int kd, .int f1, .int f2, .int f3])), (b, .inl (g 0, 100, .inl tx))]) H := hP
    have hD : va_D A ([(a, .inr (2, [.ref b, .int (nI L), .int (nI i), .int (optI (flF o i)), .int kd, .int f1, .int f2, .int f3])), (b, .inl (g 0, 100, .inl tx))]) := hD
    refine lv_iconst (v := 0) hx hb dX2_readDigit_39 (by decide) ?_
    have hL : (0 : Int32) = (rdF tx L v i o).2.2 := by rw [rdF_e c_5]
    exact g_iret hQ E M rfl hS hP hD () (by rw [rdF_e c_5]) (hL) dX2_readDigit_40
  · skip
    refine lv_aload_n hx hb dX2_readDigit_8 rfl (lv_at hl 0 rfl) ?_
    refine cl_X2_62 (As := []) (rest := []) (b := a) (wc := [(a, .inr (2, [.ref b, .int (nI L), .int (nI i), .int (optI o), .int kd, .int f1, .int f2, .int f3])), (b, .inl (g 0, 100, .inl tx))]) (wr := []) (wn := (fun _ => [(a, .inr (2, [.ref b, .int (nI L), .int (nI i), .int (optI o), .int kd, .int f1, .int f2, .int f3])), (b, .inl (g 0, 100, .inl tx))])) (isC := [0, 1]) (isR := []) (isP := [0, 1]) E hS hA hP hD ⟨rfl, rfl, rfl, rfl, by decide, fun _ => rfl, rfl⟩ (CX2_standsDigit l D g _ a b L i o kd f1 f2 f3 tx (by first | assumption | omega) (by repeat' (first | assumption | omega | apply nmF_le | apply skF_le | apply rdF_le | apply bdF_le))) ⟨Nat.le_of_ble_eq_true rfl, Nat.le_of_ble_eq_true rfl⟩ rfl rfl 0 rfl rfl hl.1 rfl (Nat.le_of_ble_eq_true rfl) ⟨Nat.le_of_ble_eq_true rfl, Nat.le_of_ble_eq_true rfl⟩ dX2_readDigit_9 (fun r u H locs hw hP hD hS => ?_)
    have hP : va_P D vwCl ([(a, .inr (2, [.ref b, .int (nI L), .int (nI i), .int (optI o), .int kd, .int f1, .int f2, .int f3])), (b, .inl (g 0, 100, .inl tx))]) H := hP
    have hD : va_D A ([(a, .inr (2, [.ref b, .int (nI L), .int (nI i), .int (optI o), .int kd, .int f1, .int f2, .int f3])), (b, .inl (g 0, 100, .inl tx))]) := hD
    obtain ⟨r1, er1⟩ : ∃ z, z = r := ⟨_, rfl⟩
    rw [← er1] at hw ⊢; have hw2 := hw
    rcases hw2 with ⟨rfl, b_9⟩ | ⟨rfl, b_9⟩
    · skip
      refine lv_if_eq (tgt := 31) hx hb dX2_readDigit_12 (by decide) (fun c_12 => ?_) (fun c_12 => ?_)
      · exact absurd c_12 (by decide)
      · skip
        have hlt : i < L := b_9.1
        refine lv_aload_n hx hb dX2_readDigit_15 rfl (lv_at hl 0 rfl) ?_
        refine gf_X2_9 E hP 0 rfl rfl dX2_readDigit_16 ?_
        refine lv_aload_n hx hb dX2_readDigit_19 rfl (lv_at hl 0 rfl) ?_
        refine gf_X2_19 E hP 0 rfl rfl dX2_readDigit_20 ?_
        refine g_iald E hP 1 rfl i rfl (by omega) (Nat.le_of_ble_eq_true rfl) dX2_readDigit_23 ?_
        refine lv_bipush (v := 48) hx hb dX2_readDigit_24 (by decide) ?_
        refine lv_isub hx hb dX2_readDigit_26 ?_
        refine lv_iload_n hx hb dX2_readDigit_27 rfl (lv_at hl 1 rfl) ?_
        refine lv_icmp_le (tgt := 41) hx hb dX2_readDigit_28 (by decide) (fun c_28 => ?_) (fun c_28 => ?_)
        · skip
          refine lv_aload_n hx hb dX2_readDigit_41 rfl (lv_at hl 0 rfl) ?_
          refine lv_dup hx hb dX2_readDigit_42 rfl ?_
          refine gf_X2_19 E hP 0 rfl rfl dX2_readDigit_43 ?_
          refine lv_iconst (v := 1) hx hb dX2_readDigit_46 (by decide) ?_
          refine lv_iadd hx hb dX2_readDigit_47 ?_
          refine g_top (w := .int (nI (i + 1))) (congrArg Value.int (ix_add rfl rfl)) ?_
          refine gp_X2_19 E hP hD hS 0 rfl rfl rfl (Nat.le_of_ble_eq_true rfl) dX2_readDigit_48 (fun H locs hP hD hS => ?_)
          have hP : va_P D vwCl ([(a, .inr (2, [.ref b, .int (nI L), .int (nI (i + 1)), .int (optI o), .int kd, .int f1, .int f2, .int f3])), (b, .inl (g 0, 100, .inl tx))]) H := hP
          have hD : va_D A ([(a, .inr (2, [.ref b, .int (nI L), .int (nI (i + 1)), .int (optI o), .int kd, .int f1, .int f2, .int f3])), (b, .inl (g 0, 100, .inl tx))]) := hD
          refine lv_aload_n hx hb dX2_readDigit_51 rfl (lv_at hl 0 rfl) ?_
          refine gf_X2_9 E hP 0 rfl rfl dX2_readDigit_52 ?_
          refine lv_aload_n hx hb dX2_readDigit_55 rfl (lv_at hl 0 rfl) ?_
          refine gf_X2_19 E hP 0 rfl rfl dX2_readDigit_56 ?_
          refine lv_iconst (v := 1) hx hb dX2_readDigit_59 (by decide) ?_
          refine lv_isub hx hb dX2_readDigit_60 ?_
          refine g_top (w := .int (nI ((i + 1) - 1))) (congrArg Value.int (ix_sub rfl rfl (by omega))) ?_
          refine g_iald E hP 1 rfl i (by rw [show i + 1 - 1 = i from by omega]) (by omega) (Nat.le_of_ble_eq_true rfl) dX2_readDigit_61 ?_
          refine lv_bipush (v := 48) hx hb dX2_readDigit_62 (by decide) ?_
          refine lv_isub hx hb dX2_readDigit_64 ?_
          have hL : (((tx i) - 48) : Int32) = (rdF tx L v i o).2.2 := by rw [rdF_y (optN he c_5) b_9 c_28]
          exact g_iret hQ E M rfl hS hP hD () (by rw [rdF_y (optN he c_5) b_9 c_28]; rw [optN he c_5]) (hL) dX2_readDigit_65
        · skip
          refine lv_aload_n hx hb dX2_readDigit_31 rfl (lv_at hl 0 rfl) ?_
          refine lv_aload_n hx hb dX2_readDigit_32 rfl (lv_at hl 0 rfl) ?_
          refine gf_X2_19 E hP 0 rfl rfl dX2_readDigit_33 ?_
          refine cl_X2_55 (As := [.int (nI i)]) (rest := []) (b := a) (wc := [(a, .inr (2, [.ref b, .int (nI L), .int (nI i), .int (optI o), .int kd, .int f1, .int f2, .int f3])), (b, .inl (g 0, 100, .inl tx))]) (wr := []) (wn := (fun _ => [(a, .inr (2, [.ref b, .int (nI L), .int (nI i), .int (optI (flF o i)), .int kd, .int f1, .int f2, .int f3])), (b, .inl (g 0, 100, .inl tx))])) (isC := [0, 1]) (isR := []) (isP := [0, 1]) E hS hA hP hD ⟨rfl, rfl, rfl, rfl, by decide, fun _ => rfl, rfl⟩ (CX2_fail l D g _ a b L i o kd f1 f2 f3 tx i (by repeat' (first | assumption | omega | (intro q h; cases h; done) | apply nmF_er | apply skF_er | apply rdF_er | apply bdF_er | apply flF_le | apply nmF_le | apply skF_le | apply rdF_le | apply bdF_le))) ⟨Nat.le_of_ble_eq_true rfl, Nat.le_of_ble_eq_true rfl⟩ rfl rfl 0 rfl rfl hl.1 rfl (Nat.le_of_ble_eq_true rfl) ⟨Nat.le_of_ble_eq_true rfl, Nat.le_of_ble_eq_true rfl⟩ dX2_readDigit_36 (fun u H locs hw hP hD hS => ?_)
          have hP : va_P D vwCl ([(a, .inr (2, [.ref b, .int (nI L), .int (nI i), .int (optI (flF o i)), .int kd, .int f1, .int f2, .int f3])), (b, .inl (g 0, 100, .inl tx))]) H := hP
          have hD : va_D A ([(a, .inr (2, [.ref b, .int (nI L), .int (nI i), .int (optI (flF o i)), .int kd, .int f1, .int f2, .int f3])), (b, .inl (g 0, 100, .inl tx))]) := hD
          refine lv_iconst (v := 0) hx hb dX2_readDigit_39 (by decide) ?_
          have hL : (0 : Int32) = (rdF tx L v i o).2.2 := by rw [rdF_n (optN he c_5) (fun z => c_28 z.2)]
          exact g_iret hQ E M rfl hS hP hD () (by rw [rdF_n (optN he c_5) (fun z => c_28 z.2)]) (hL) dX2_readDigit_40
    · skip
      refine lv_if_eq (tgt := 31) hx hb dX2_readDigit_12 (by decide) (fun c_12 => ?_) (fun c_12 => ?_)
      · skip
        refine lv_aload_n hx hb dX2_readDigit_31 rfl (lv_at hl 0 rfl) ?_
        refine lv_aload_n hx hb dX2_readDigit_32 rfl (lv_at hl 0 rfl) ?_
        refine gf_X2_19 E hP 0 rfl rfl dX2_readDigit_33 ?_
        refine cl_X2_55 (As := [.int (nI i)]) (rest := []) (b := a) (wc := [(a, .inr (2, [.ref b, .int (nI L), .int (nI i), .int (optI o), .int kd, .int f1, .int f2, .int f3])), (b, .inl (g 0, 100, .inl tx))]) (wr := []) (wn := (fun _ => [(a, .inr (2, [.ref b, .int (nI L), .int (nI i), .int (optI (flF o i)), .int kd, .int f1, .int f2, .int f3])), (b, .inl (g 0, 100, .inl tx))])) (isC := [0, 1]) (isR := []) (isP := [0, 1]) E hS hA hP hD ⟨rfl, rfl, rfl, rfl, by decide, fun _ => rfl, rfl⟩ (CX2_fail l D g _ a b L i o kd f1 f2 f3 tx i (by repeat' (first | assumption | omega | (intro q h; cases h; done) | apply nmF_er | apply skF_er | apply rdF_er | apply bdF_er | apply flF_le | apply nmF_le | apply skF_le | apply rdF_le | apply bdF_le))) ⟨Nat.le_of_ble_eq_true rfl, Nat.le_of_ble_eq_true rfl⟩ rfl rfl 0 rfl rfl hl.1 rfl (Nat.le_of_ble_eq_true rfl) ⟨Nat.le_of_ble_eq_true rfl, Nat.le_of_ble_eq_true rfl⟩ dX2_readDigit_36 (fun u H locs hw hP hD hS => ?_)
        have hP : va_P D vwCl ([(a, .inr (2, [.ref b, .int (nI L), .int (nI i), .int (optI (flF o i)), .int kd, .int f1, .int f2, .int f3])), (b, .inl (g 0, 100, .inl tx))]) H := hP
        have hD : va_D A ([(a, .inr (2, [.ref b, .int (nI L), .int (nI i), .int (optI (flF o i)), .int kd, .int f1, .int f2, .int f3])), (b, .inl (g 0, 100, .inl tx))]) := hD
        refine lv_iconst (v := 0) hx hb dX2_readDigit_39 (by decide) ?_
        have hL : (0 : Int32) = (rdF tx L v i o).2.2 := by rw [rdF_n (optN he c_5) (fun z => b_9 z.1)]
        exact g_iret hQ E M rfl hS hP hD () (by rw [rdF_n (optN he c_5) (fun z => b_9 z.1)]) (hL) dX2_readDigit_40
      · exact absurd c_12 (by decide)
abbrev rm_X2_readNumber : Room := { frames := 1, cells := 0, slots := 0, locals := 21 }
set_option maxHeartbeats 600000 in
set_option maxRecDepth 100000 in
theorem CX2_readNumber (l : Launch) (D : va_G) (g : Nat → ClassId) (sz : Nat) (a b L i : Nat) (o : Option Nat) (kd f1 f2 f3 : Int32) (tx : Nat → Int32) (mx : Nat) (v : Int32) (hL : L ≤ 100) (hi : i ≤ L) (he : ∀ q, o = some q → q ≤ 100) (hm5 : mx ≤ 5) : Met l yX2_readNumber (Cond.code yX2_readNumber prog_4_method_11_code 6 (some .int) :: WA) rm_X2_readNumber (va_Pc [.ref a, .int (nI mx), .int v] (Pre D g ([(a, .inr (2, [.ref b, .int (nI L), .int (nI i), .int (optI o), .int kd, .int f1, .int f2, .int f3])), (b, .inl (g 0, 100, .inl tx))]) sz)) (va_Qi (fun (r : Int32) (_ : Unit) => r = (nmF tx L mx v i o).2.2) (fun (_ : Unit) t => Bp D g (va_A ([(a, .inr (2, [.ref b, .int (nI L), .int (nI i), .int (optI o), .int kd, .int f1, .int f2, .int f3])), (b, .inl (g 0, 100, .inl tx))]) sz) ([(a, .inr (2, [.ref b, .int (nI L), .int (nI (nmF tx L mx v i o).1), .int (optI (nmF tx L mx v i o).2.1), .int kd, .int f1, .int f2, .int f3])), (b, .inl (g 0, 100, .inl tx))]) t) (va_A ([(a, .inr (2, [.ref b, .int (nI L), .int (nI i), .int (optI o), .int kd, .int f1, .int f2, .int f3])), (b, .inl (g 0, 100, .inl tx))]) sz)) 0 0 (va_A ([(a, .inr (2, [.ref b, .int (nI L), .int (nI i), .int (optI o), .int kd, .int f1, .int f2, .int f3])), (b, .inl (g 0, 100, .inl tx))]) sz) := by
  refine g_met (av := [.ref a, .int (nI mx), .int v]) (QcA := fun A => va_Qi (fun (r : Int32) (_ : Unit) => r = (nmF tx L mx v i o).2.2) (fun (_ : Unit) t => Bp D g A ([(a, .inr (2, [.ref b, .int (nI L), .int (nI (nmF tx L mx v i o).1), .int (optI (nmF tx L mx v i o).2.1), .int kd, .int f1, .int f2, .int f3])), (b, .inl (g 0, 100, .inl tx))]) t) A) rfl (Nat.le_of_ble_eq_true rfl) ?_
  intro p e s m below meth c A Q ls E M hP hD hS hA hQ hl
  have hx := E.1.1
  have hb := E.1.2.1
  have hl : lv_has ls 6 [(0, .ref a), (1, .int (nI mx)), (2, .int v)] := hl
  refine lv_aload_n hx hb dX2_readNumber_0 rfl (lv_at hl 0 rfl) ?_
  refine gf_X2_19 E hP 0 rfl rfl dX2_readNumber_1 ?_
  refine lv_istore_n (lv' := [(3, .int (nI i)), (0, .ref a), (1, .int (nI mx)), (2, .int v)]) hx hb dX2_readNumber_4 rfl hl (by decide) rfl (fun ls hl => ?_)
  refine lv_iconst (v := 0) hx hb dX2_readNumber_5 (by decide) ?_
  refine lv_istore (lv' := [(4, .int 0), (3, .int (nI i)), (0, .ref a), (1, .int (nI mx)), (2, .int v)]) hx hb dX2_readNumber_6 hl (by decide) rfl (fun ls hl => ?_)
  refine lv_iconst (v := 0) hx hb dX2_readNumber_8 (by decide) ?_
  refine lv_istore (lv' := [(5, .int 0), (4, .int 0), (3, .int (nI i)), (0, .ref a), (1, .int (nI mx)), (2, .int v)]) hx hb dX2_readNumber_9 hl (by decide) rfl (fun ls hl => ?_)
  have LOOP_11 : ∀ (fu_11 : Nat) (n : Nat) (hm : n ≤ mx) (hin : i + n ≤ L) (hd : ∀ j, j < n → dgP tx L (i + j)) (hz : n ≠ 0 → o = none) (hf_11 : mx - n < fu_11) (H : Heap) (locs : List Loc) (ls : Array Slot), va_P D vwCl ([(a, .inr (2, [.ref b, .int (nI L), .int (nI (i + n)), .int (optI o), .int kd, .int f1, .int f2, .int f3])), (b, .inl (g 0, 100, .inl tx))]) H → va_D A ([(a, .inr (2, [.ref b, .int (nI L), .int (nI (i + n)), .int (optI o), .int kd, .int f1, .int f2, .int f3])), (b, .inl (g 0, 100, .inl tx))]) → va_S A s.heap H locs → lv_has ls 6 [(0, .ref a), (1, .int (nI mx)), (2, .int v), (3, .int (nI i)), (4, .int (numI tx i n)), (5, .int (nI n))] → W p l e rm_X2_readNumber s m ([.ref a, .int (nI mx), .int v] : List Value).toArray below meth c H locs 0 0 Q (F0 m 11 ls []) := by
    intro fu_11
    induction fu_11 with
    | zero => intro n hm hin hd hz hf_11; exact absurd hf_11 (Nat.not_lt_zero _)
    | succ fu_11 ih_11 =>
      intro n hm hin hd hz hf_11 H locs ls hP hD hS hl
      refine lv_aload_n hx hb dX2_readNumber_11 rfl (lv_at hl 0 rfl) ?_
      refine gf_X2_22 E hP 0 rfl rfl dX2_readNumber_12 ?_
      refine lv_iconst (v := (-1)) hx hb dX2_readNumber_15 (by decide) ?_
      refine lv_icmp_ne (tgt := 68) hx hb dX2_readNumber_16 (by decide) (fun c_16 => ?_) (fun c_16 => ?_)
      · skip
        have hne : True := trivial
        refine lv_iload hx hb dX2_readNumber_68 (lv_at hl 5 rfl) ?_
        refine lv_if_eq (tgt := 80) hx hb dX2_readNumber_70 (by decide) (fun c_70 => ?_) (fun c_70 => ?_)
        · skip
          refine lv_aload_n hx hb dX2_readNumber_80 rfl (lv_at hl 0 rfl) ?_
          refine lv_aload_n hx hb dX2_readNumber_81 rfl (lv_at hl 0 rfl) ?_
          refine gf_X2_19 E hP 0 rfl rfl dX2_readNumber_82 ?_
          refine cl_X2_55 (As := [.int (nI (i + n))]) (rest := []) (b := a) (wc := [(a, .inr (2, [.ref b, .int (nI L), .int (nI (i + n)), .int (optI o), .int kd, .int f1, .int f2, .int f3])), (b, .inl (g 0, 100, .inl tx))]) (wr := []) (wn := (fun _ => [(a, .inr (2, [.ref b, .int (nI L), .int (nI (i + n)), .int (optI (flF o (i + n))), .int kd, .int f1, .int f2, .int f3])), (b, .inl (g 0, 100, .inl tx))])) (isC := [0, 1]) (isR := []) (isP := [0, 1]) E hS hA hP hD ⟨rfl, rfl, rfl, rfl, by decide, fun _ => rfl, rfl⟩ (CX2_fail l D g _ a b L (i + n) o kd f1 f2 f3 tx (i + n) (by repeat' (first | assumption | omega | (intro q h; cases h; done) | apply nmF_er | apply skF_er | apply rdF_er | apply bdF_er | apply flF_le | apply nmF_le | apply skF_le | apply rdF_le | apply bdF_le))) ⟨Nat.le_of_ble_eq_true rfl, Nat.le_of_ble_eq_true rfl⟩ rfl rfl 0 rfl rfl hl.1 rfl (Nat.le_of_ble_eq_true rfl) ⟨Nat.le_of_ble_eq_true rfl, Nat.le_of_ble_eq_true rfl⟩ dX2_readNumber_85 (fun u H locs hw hP hD hS => ?_)
          have hP : va_P D vwCl ([(a, .inr (2, [.ref b, .int (nI L), .int (nI (i + n)), .int (optI (flF o (i + n))), .int kd, .int f1, .int f2, .int f3])), (b, .inl (g 0, 100, .inl tx))]) H := hP
          have hD : va_D A ([(a, .inr (2, [.ref b, .int (nI L), .int (nI (i + n)), .int (optI (flF o (i + n))), .int kd, .int f1, .int f2, .int f3])), (b, .inl (g 0, 100, .inl tx))]) := hD
          refine lv_goto (tgt := 102) hx hb dX2_readNumber_88 (by decide) ?_
          refine lv_iload hx hb dX2_readNumber_102 (lv_at hl 4 rfl) ?_
          have hL : ((numI tx i n) : Int32) = (nmF tx L mx v i o).2.2 := by rw [(show nmF tx L mx v i o = (i + n, flF o (i + n), numI tx i n) from nmF_e c_16 hz hne)]
          exact g_iret hQ E M rfl hS hP hD () (by rw [(show nmF tx L mx v i o = (i + n, flF o (i + n), numI tx i n) from nmF_e c_16 hz hne)]) (hL) dX2_readNumber_104
        · exact absurd (hz (nI_ne0' c_70)) (by intro h; subst h; exact c_16 rfl)
      · skip
        refine lv_iload hx hb dX2_readNumber_19 (lv_at hl 5 rfl) ?_
        refine lv_iload_n hx hb dX2_readNumber_21 rfl (lv_at hl 1 rfl) ?_
        refine lv_icmp_ge (tgt := 68) hx hb dX2_readNumber_22 (by decide) (fun c_22 => ?_) (fun c_22 => ?_)
        · skip
          have hne : True := trivial
          refine lv_iload hx hb dX2_readNumber_68 (lv_at hl 5 rfl) ?_
          refine lv_if_eq (tgt := 80) hx hb dX2_readNumber_70 (by decide) (fun c_70 => ?_) (fun c_70 => ?_)
          · skip
            refine lv_aload_n hx hb dX2_readNumber_80 rfl (lv_at hl 0 rfl) ?_
            refine lv_aload_n hx hb dX2_readNumber_81 rfl (lv_at hl 0 rfl) ?_
            refine gf_X2_19 E hP 0 rfl rfl dX2_readNumber_82 ?_
            refine cl_X2_55 (As := [.int (nI (i + n))]) (rest := []) (b := a) (wc := [(a, .inr (2, [.ref b, .int (nI L), .int (nI (i + n)), .int (optI o), .int kd, .int f1, .int f2, .int f3])), (b, .inl (g 0, 100, .inl tx))]) (wr := []) (wn := (fun _ => [(a, .inr (2, [.ref b, .int (nI L), .int (nI (i + n)), .int (optI (flF o (i + n))), .int kd, .int f1, .int f2, .int f3])), (b, .inl (g 0, 100, .inl tx))])) (isC := [0, 1]) (isR := []) (isP := [0, 1]) E hS hA hP hD ⟨rfl, rfl, rfl, rfl, by decide, fun _ => rfl, rfl⟩ (CX2_fail l D g _ a b L (i + n) o kd f1 f2 f3 tx (i + n) (by repeat' (first | assumption | omega | (intro q h; cases h; done) | apply nmF_er | apply skF_er | apply rdF_er | apply bdF_er | apply flF_le | apply nmF_le | apply skF_le | apply rdF_le | apply bdF_le))) ⟨Nat.le_of_ble_eq_true rfl, Nat.le_of_ble_eq_true rfl⟩ rfl rfl 0 rfl rfl hl.1 rfl (Nat.le_of_ble_eq_true rfl) ⟨Nat.le_of_ble_eq_true rfl, Nat.le_of_ble_eq_true rfl⟩ dX2_readNumber_85 (fun u H locs hw hP hD hS => ?_)
            have hP : va_P D vwCl ([(a, .inr (2, [.ref b, .int (nI L), .int (nI (i + n)), .int (optI (flF o (i + n))), .int kd, .int f1, .int f2, .int f3])), (b, .inl (g 0, 100, .inl tx))]) H := hP
            have hD : va_D A ([(a, .inr (2, [.ref b, .int (nI L), .int (nI (i + n)), .int (optI (flF o (i + n))), .int kd, .int f1, .int f2, .int f3])), (b, .inl (g 0, 100, .inl tx))]) := hD
            refine lv_goto (tgt := 102) hx hb dX2_readNumber_88 (by decide) ?_
            refine lv_iload hx hb dX2_readNumber_102 (lv_at hl 4 rfl) ?_
            have hL : ((numI tx i n) : Int32) = (nmF tx L mx v i o).2.2 := by rw [(show nmF tx L mx v i o = (i + n, flF o (i + n), numI tx i n) from by rw [optN he c_16]; exact nmF_bad (scN_eq hd hm (Or.inl (by have := nI_le_of c_22 (by omega) (by omega); omega))) (Or.inl (nI_eq0 c_70 (by omega))))]
            exact g_iret hQ E M rfl hS hP hD () (by rw [(show nmF tx L mx v i o = (i + n, flF o (i + n), numI tx i n) from by rw [optN he c_16]; exact nmF_bad (scN_eq hd hm (Or.inl (by have := nI_le_of c_22 (by omega) (by omega); omega))) (Or.inl (nI_eq0 c_70 (by omega))))]) (hL) dX2_readNumber_104
          · skip
            refine lv_aload_n hx hb dX2_readNumber_73 rfl (lv_at hl 0 rfl) ?_
            refine cl_X2_62 (As := []) (rest := []) (b := a) (wc := [(a, .inr (2, [.ref b, .int (nI L), .int (nI (i + n)), .int (optI o), .int kd, .int f1, .int f2, .int f3])), (b, .inl (g 0, 100, .inl tx))]) (wr := []) (wn := (fun _ => [(a, .inr (2, [.ref b, .int (nI L), .int (nI (i + n)), .int (optI o), .int kd, .int f1, .int f2, .int f3])), (b, .inl (g 0, 100, .inl tx))])) (isC := [0, 1]) (isR := []) (isP := [0, 1]) E hS hA hP hD ⟨rfl, rfl, rfl, rfl, by decide, fun _ => rfl, rfl⟩ (CX2_standsDigit l D g _ a b L (i + n) o kd f1 f2 f3 tx (by first | assumption | omega) (by repeat' (first | assumption | omega | apply nmF_le | apply skF_le | apply rdF_le | apply bdF_le))) ⟨Nat.le_of_ble_eq_true rfl, Nat.le_of_ble_eq_true rfl⟩ rfl rfl 0 rfl rfl hl.1 rfl (Nat.le_of_ble_eq_true rfl) ⟨Nat.le_of_ble_eq_true rfl, Nat.le_of_ble_eq_true rfl⟩ dX2_readNumber_74 (fun r u H locs hw hP hD hS => ?_)
            have hP : va_P D vwCl ([(a, .inr (2, [.ref b, .int (nI L), .int (nI (i + n)), .int (optI o), .int kd, .int f1, .int f2, .int f3])), (b, .inl (g 0, 100, .inl tx))]) H := hP
            have hD : va_D A ([(a, .inr (2, [.ref b, .int (nI L), .int (nI (i + n)), .int (optI o), .int kd, .int f1, .int f2, .int f3])), (b, .inl (g 0, 100, .inl tx))]) := hD
            obtain ⟨r1, er1⟩ : ∃ z, z = r := ⟨_, rfl⟩
            rw [← er1] at hw ⊢; have hw2 := hw
            rcases hw2 with ⟨rfl, b_74⟩ | ⟨rfl, b_74⟩
            · skip
              refine lv_if_eq (tgt := 91) hx hb dX2_readNumber_77 (by decide) (fun c_77 => ?_) (fun c_77 => ?_)
              · exact absurd c_77 (by decide)
              · skip
                refine lv_aload_n hx hb dX2_readNumber_80 rfl (lv_at hl 0 rfl) ?_
                refine lv_aload_n hx hb dX2_readNumber_81 rfl (lv_at hl 0 rfl) ?_
                refine gf_X2_19 E hP 0 rfl rfl dX2_readNumber_82 ?_
                refine cl_X2_55 (As := [.int (nI (i + n))]) (rest := []) (b := a) (wc := [(a, .inr (2, [.ref b, .int (nI L), .int (nI (i + n)), .int (optI o), .int kd, .int f1, .int f2, .int f3])), (b, .inl (g 0, 100, .inl tx))]) (wr := []) (wn := (fun _ => [(a, .inr (2, [.ref b, .int (nI L), .int (nI (i + n)), .int (optI (flF o (i + n))), .int kd, .int f1, .int f2, .int f3])), (b, .inl (g 0, 100, .inl tx))])) (isC := [0, 1]) (isR := []) (isP := [0, 1]) E hS hA hP hD ⟨rfl, rfl, rfl, rfl, by decide, fun _ => rfl, rfl⟩ (CX2_fail l D g _ a b L (i + n) o kd f1 f2 f3 tx (i + n) (by repeat' (first | assumption | omega | (intro q h; cases h; done) | apply nmF_er | apply skF_er | apply rdF_er | apply bdF_er | apply flF_le | apply nmF_le | apply skF_le | apply rdF_le | apply bdF_le))) ⟨Nat.le_of_ble_eq_true rfl, Nat.le_of_ble_eq_true rfl⟩ rfl rfl 0 rfl rfl hl.1 rfl (Nat.le_of_ble_eq_true rfl) ⟨Nat.le_of_ble_eq_true rfl, Nat.le_of_ble_eq_true rfl⟩ dX2_readNumber_85 (fun u H locs hw hP hD hS => ?_)
                have hP : va_P D vwCl ([(a, .inr (2, [.ref b, .int (nI L), .int (nI (i + n)), .int (optI (flF o (i + n))), .int kd, .int f1, .int f2, .int f3])), (b, .inl (g 0, 100, .inl tx))]) H := hP
                have hD : va_D A ([(a, .inr (2, [.ref b, .int (nI L), .int (nI (i + n)), .int (optI (flF o (i + n))), .int kd, .int f1, .int f2, .int f3])), (b, .inl (g 0, 100, .inl tx))]) := hD
                refine lv_goto (tgt := 102) hx hb dX2_readNumber_88 (by decide) ?_
                refine lv_iload hx hb dX2_readNumber_102 (lv_at hl 4 rfl) ?_
                have hL : ((numI tx i n) : Int32) = (nmF tx L mx v i o).2.2 := by rw [(show nmF tx L mx v i o = (i + n, flF o (i + n), numI tx i n) from by rw [optN he c_16]; exact nmF_bad (scN_eq hd hm (Or.inl (by have := nI_le_of c_22 (by omega) (by omega); omega))) (Or.inr b_74))]
                exact g_iret hQ E M rfl hS hP hD () (by rw [(show nmF tx L mx v i o = (i + n, flF o (i + n), numI tx i n) from by rw [optN he c_16]; exact nmF_bad (scN_eq hd hm (Or.inl (by have := nI_le_of c_22 (by omega) (by omega); omega))) (Or.inr b_74))]) (hL) dX2_readNumber_104
            · skip
              refine lv_if_eq (tgt := 91) hx hb dX2_readNumber_77 (by decide) (fun c_77 => ?_) (fun c_77 => ?_)
              · skip
                refine lv_iload hx hb dX2_readNumber_91 (lv_at hl 4 rfl) ?_
                refine lv_iload_n hx hb dX2_readNumber_93 rfl (lv_at hl 2 rfl) ?_
                refine lv_icmp_le (tgt := 102) hx hb dX2_readNumber_94 (by decide) (fun c_94 => ?_) (fun c_94 => ?_)
                · skip
                  refine lv_iload hx hb dX2_readNumber_102 (lv_at hl 4 rfl) ?_
                  have hL : ((numI tx i n) : Int32) = (nmF tx L mx v i o).2.2 := by rw [(show nmF tx L mx v i o = (i + n, o, numI tx i n) from by rw [optN he c_16]; exact nmF_ok (scN_eq hd hm (Or.inl (by have := nI_le_of c_22 (by omega) (by omega); omega))) (nI_ne0' c_70) b_74 c_94)]
                  exact g_iret hQ E M rfl hS hP hD () (by rw [(show nmF tx L mx v i o = (i + n, o, numI tx i n) from by rw [optN he c_16]; exact nmF_ok (scN_eq hd hm (Or.inl (by have := nI_le_of c_22 (by omega) (by omega); omega))) (nI_ne0' c_70) b_74 c_94)]) (hL) dX2_readNumber_104
                · skip
                  refine lv_aload_n hx hb dX2_readNumber_97 rfl (lv_at hl 0 rfl) ?_
                  refine lv_iload_n hx hb dX2_readNumber_98 rfl (lv_at hl 3 rfl) ?_
                  refine cl_X2_55 (As := [.int (nI i)]) (rest := []) (b := a) (wc := [(a, .inr (2, [.ref b, .int (nI L), .int (nI (i + n)), .int (optI o), .int kd, .int f1, .int f2, .int f3])), (b, .inl (g 0, 100, .inl tx))]) (wr := []) (wn := (fun _ => [(a, .inr (2, [.ref b, .int (nI L), .int (nI (i + n)), .int (optI (flF o i)), .int kd, .int f1, .int f2, .int f3])), (b, .inl (g 0, 100, .inl tx))])) (isC := [0, 1]) (isR := []) (isP := [0, 1]) E hS hA hP hD ⟨rfl, rfl, rfl, rfl, by decide, fun _ => rfl, rfl⟩ (CX2_fail l D g _ a b L (i + n) o kd f1 f2 f3 tx i (by repeat' (first | assumption | omega | (intro q h; cases h; done) | apply nmF_er | apply skF_er | apply rdF_er | apply bdF_er | apply flF_le | apply nmF_le | apply skF_le | apply rdF_le | apply bdF_le))) ⟨Nat.le_of_ble_eq_true rfl, Nat.le_of_ble_eq_true rfl⟩ rfl rfl 0 rfl rfl hl.1 rfl (Nat.le_of_ble_eq_true rfl) ⟨Nat.le_of_ble_eq_true rfl, Nat.le_of_ble_eq_true rfl⟩ dX2_readNumber_99 (fun u H locs hw hP hD hS => ?_)
                  have hP : va_P D vwCl ([(a, .inr (2, [.ref b, .int (nI L), .int (nI (i + n)), .int (optI (flF o i)), .int kd, .int f1, .int f2, .int f3])), (b, .inl (g 0, 100, .inl tx))]) H := hP
                  have hD : va_D A ([(a, .inr (2, [.ref b, .int (nI L), .int (nI (i + n)), .int (optI (flF o i)), .int kd, .int f1, .int f2, .int f3])), (b, .inl (g 0, 100, .inl tx))]) := hD
                  refine lv_iload hx hb dX2_readNumber_102 (lv_at hl 4 rfl) ?_
                  have hL : ((numI tx i n) : Int32) = (nmF tx L mx v i o).2.2 := by rw [(show nmF tx L mx v i o = (i + n, flF o i, numI tx i n) from by rw [optN he c_16]; exact nmF_big (scN_eq hd hm (Or.inl (by have := nI_le_of c_22 (by omega) (by omega); omega))) (nI_ne0' c_70) b_74 c_94)]
                  exact g_iret hQ E M rfl hS hP hD () (by rw [(show nmF tx L mx v i o = (i + n, flF o i, numI tx i n) from by rw [optN he c_16]; exact nmF_big (scN_eq hd hm (Or.inl (by have := nI_le_of c_22 (by omega) (by omega); omega))) (nI_ne0' c_70) b_74 c_94)]) (hL) dX2_readNumber_104
              · exact absurd c_77 (by decide)
        · skip
          have hnm : n < mx := nI_nle_of c_22 (by omega) (by omega)
          refine lv_aload_n hx hb dX2_readNumber_25 rfl (lv_at hl 0 rfl) ?_
          refine cl_X2_62 (As := []) (rest := []) (b := a) (wc := [(a, .inr (2, [.ref b, .int (nI L), .int (nI (i + n)), .int (optI o), .int kd, .int f1, .int f2, .int f3])), (b, .inl (g 0, 100, .inl tx))]) (wr := []) (wn := (fun _ => [(a, .inr (2, [.ref b, .int (nI L), .int (nI (i + n)), .int (optI o), .int kd, .int f1, .int f2, .int f3])), (b, .inl (g 0, 100, .inl tx))])) (isC := [0, 1]) (isR := []) (isP := [0, 1]) E hS hA hP hD ⟨rfl, rfl, rfl, rfl, by decide, fun _ => rfl, rfl⟩ (CX2_standsDigit l D g _ a b L (i + n) o kd f1 f2 f3 tx (by first | assumption | omega) (by repeat' (first | assumption | omega | apply nmF_le | apply skF_le | apply rdF_le | apply bdF_le))) ⟨Nat.le_of_ble_eq_true rfl, Nat.le_of_ble_eq_true rfl⟩ rfl rfl 0 rfl rfl hl.1 rfl (Nat.le_of_ble_eq_true rfl) ⟨Nat.le_of_ble_eq_true rfl, Nat.le_of_ble_eq_true rfl⟩ dX2_readNumber_26 (fun r u H locs hw hP hD hS => ?_)
          have hP : va_P D vwCl ([(a, .inr (2, [.ref b, .int (nI L), .int (nI (i + n)), .int (optI o), .int kd, .int f1, .int f2, .int f3])), (b, .inl (g 0, 100, .inl tx))]) H := hP
          have hD : va_D A ([(a, .inr (2, [.ref b, .int (nI L), .int (nI (i + n)), .int (optI o), .int kd, .int f1, .int f2, .int f3])), (b, .inl (g 0, 100, .inl tx))]) := hD
          obtain ⟨r3, er3⟩ : ∃ z, z = r := ⟨_, rfl⟩
          rw [← er3] at hw ⊢; have hw4 := hw
          rcases hw4 with ⟨rfl, b_26⟩ | ⟨rfl, b_26⟩
          · skip
            refine lv_if_eq (tgt := 68) hx hb dX2_readNumber_29 (by decide) (fun c_29 => ?_) (fun c_29 => ?_)
            · exact absurd c_29 (by decide)
            · skip
              have hlt : i + n < L := b_26.1
              refine lv_bipush (v := 10) hx hb dX2_readNumber_32 (by decide) ?_
              refine lv_iload hx hb dX2_readNumber_34 (lv_at hl 4 rfl) ?_
              refine lv_imul hx hb dX2_readNumber_36 ?_
              refine lv_aload_n hx hb dX2_readNumber_37 rfl (lv_at hl 0 rfl) ?_
              refine gf_X2_9 E hP 0 rfl rfl dX2_readNumber_38 ?_
              refine lv_aload_n hx hb dX2_readNumber_41 rfl (lv_at hl 0 rfl) ?_
              refine gf_X2_19 E hP 0 rfl rfl dX2_readNumber_42 ?_
              refine g_iald E hP 1 rfl (i + n) rfl (by omega) (Nat.le_of_ble_eq_true rfl) dX2_readNumber_45 ?_
              refine lv_iadd hx hb dX2_readNumber_46 ?_
              refine lv_bipush (v := 48) hx hb dX2_readNumber_47 (by decide) ?_
              refine lv_isub hx hb dX2_readNumber_49 ?_
              refine lv_istore (lv' := [(4, .int (((10 * (numI tx i n)) + (tx (i + n))) - 48)), (0, .ref a), (1, .int (nI mx)), (2, .int v), (3, .int (nI i)), (5, .int (nI n))]) hx hb dX2_readNumber_50 hl (by decide) rfl (fun ls hl => ?_)
              refine lv_aload_n hx hb dX2_readNumber_52 rfl (lv_at hl 1 rfl) ?_
              refine lv_dup hx hb dX2_readNumber_53 rfl ?_
              refine gf_X2_19 E hP 0 rfl rfl dX2_readNumber_54 ?_
              refine lv_iconst (v := 1) hx hb dX2_readNumber_57 (by decide) ?_
              refine lv_iadd hx hb dX2_readNumber_58 ?_
              refine g_top (w := .int (nI ((i + n) + 1))) (congrArg Value.int (ix_add rfl rfl)) ?_
              refine gp_X2_19 E hP hD hS 0 rfl rfl rfl (Nat.le_of_ble_eq_true rfl) dX2_readNumber_59 (fun H locs hP hD hS => ?_)
              have hP : va_P D vwCl ([(a, .inr (2, [.ref b, .int (nI L), .int (nI ((i + n) + 1)), .int (optI o), .int kd, .int f1, .int f2, .int f3])), (b, .inl (g 0, 100, .inl tx))]) H := hP
              have hD : va_D A ([(a, .inr (2, [.ref b, .int (nI L), .int (nI ((i + n) + 1)), .int (optI o), .int kd, .int f1, .int f2, .int f3])), (b, .inl (g 0, 100, .inl tx))]) := hD
              refine lv_iinc (v := (nI (n + 1))) (lv' := [(5, .int (nI (n + 1))), (4, .int (((10 * (numI tx i n)) + (tx (i + n))) - 48)), (0, .ref a), (1, .int (nI mx)), (2, .int v), (3, .int (nI i))]) hx hb dX2_readNumber_62 hl (k := 5) rfl (by exact ix_add rfl rfl) (by decide) rfl (fun ls hl => ?_)
              refine lv_goto (tgt := 11) hx hb dX2_readNumber_65 (by decide) ?_
              exact ih_11 (n + 1) (by omega) (by omega) (fun j hj => (Nat.lt_or_ge j n).elim (fun q => hd j q) (fun q => (show j = n by omega) ▸ b_26)) (fun _ => optN he c_16) (by omega) _ _ _ hP hD hS (lv_sub hl [2, 3, 4, 5, 1, 0] rfl)
          · skip
            refine lv_if_eq (tgt := 68) hx hb dX2_readNumber_29 (by decide) (fun c_29 => ?_) (fun c_29 => ?_)
            · skip
              have hne : True := trivial
              refine lv_iload hx hb dX2_readNumber_68 (lv_at hl 5 rfl) ?_
              refine lv_if_eq (tgt := 80) hx hb dX2_readNumber_70 (by decide) (fun c_70 => ?_) (fun c_70 => ?_)
              · skip
                refine lv_aload_n hx hb dX2_readNumber_80 rfl (lv_at hl 0 rfl) ?_
                refine lv_aload_n hx hb dX2_readNumber_81 rfl (lv_at hl 0 rfl) ?_
                refine gf_X2_19 E hP 0 rfl rfl dX2_readNumber_82 ?_
                refine cl_X2_55 (As := [.int (nI (i + n))]) (rest := []) (b := a) (wc := [(a, .inr (2, [.ref b, .int (nI L), .int (nI (i + n)), .int (optI o), .int kd, .int f1, .int f2, .int f3])), (b, .inl (g 0, 100, .inl tx))]) (wr := []) (wn := (fun _ => [(a, .inr (2, [.ref b, .int (nI L), .int (nI (i + n)), .int (optI (flF o (i + n))), .int kd, .int f1, .int f2, .int f3])), (b, .inl (g 0, 100, .inl tx))])) (isC := [0, 1]) (isR := []) (isP := [0, 1]) E hS hA hP hD ⟨rfl, rfl, rfl, rfl, by decide, fun _ => rfl, rfl⟩ (CX2_fail l D g _ a b L (i + n) o kd f1 f2 f3 tx (i + n) (by repeat' (first | assumption | omega | (intro q h; cases h; done) | apply nmF_er | apply skF_er | apply rdF_er | apply bdF_er | apply flF_le | apply nmF_le | apply skF_le | apply rdF_le | apply bdF_le))) ⟨Nat.le_of_ble_eq_true rfl, Nat.le_of_ble_eq_true rfl⟩ rfl rfl 0 rfl rfl hl.1 rfl (Nat.le_of_ble_eq_true rfl) ⟨Nat.le_of_ble_eq_true rfl, Nat.le_of_ble_eq_true rfl⟩ dX2_readNumber_85 (fun u H locs hw hP hD hS => ?_)
                have hP : va_P D vwCl ([(a, .inr (2, [.ref b, .int (nI L), .int (nI (i + n)), .int (optI (flF o (i + n))), .int kd, .int f1, .int f2, .int f3])), (b, .inl (g 0, 100, .inl tx))]) H := hP
                have hD : va_D A ([(a, .inr (2, [.ref b, .int (nI L), .int (nI (i + n)), .int (optI (flF o (i + n))), .int kd, .int f1, .int f2, .int f3])), (b, .inl (g 0, 100, .inl tx))]) := hD
                refine lv_goto (tgt := 102) hx hb dX2_readNumber_88 (by decide) ?_
                refine lv_iload hx hb dX2_readNumber_102 (lv_at hl 4 rfl) ?_
                have hL : ((numI tx i n) : Int32) = (nmF tx L mx v i o).2.2 := by rw [(show nmF tx L mx v i o = (i + n, flF o (i + n), numI tx i n) from by rw [optN he c_16]; exact nmF_bad (scN_eq hd hm (Or.inr b_26)) (Or.inl (nI_eq0 c_70 (by omega))))]
                exact g_iret hQ E M rfl hS hP hD () (by rw [(show nmF tx L mx v i o = (i + n, flF o (i + n), numI tx i n) from by rw [optN he c_16]; exact nmF_bad (scN_eq hd hm (Or.inr b_26)) (Or.inl (nI_eq0 c_70 (by omega))))]) (hL) dX2_readNumber_104
              · skip
                refine lv_aload_n hx hb dX2_readNumber_73 rfl (lv_at hl 0 rfl) ?_
                refine cl_X2_62 (As := []) (rest := []) (b := a) (wc := [(a, .inr (2, [.ref b, .int (nI L), .int (nI (i + n)), .int (optI o), .int kd, .int f1, .int f2, .int f3])), (b, .inl (g 0, 100, .inl tx))]) (wr := []) (wn := (fun _ => [(a, .inr (2, [.ref b, .int (nI L), .int (nI (i + n)), .int (optI o), .int kd, .int f1, .int f2, .int f3])), (b, .inl (g 0, 100, .inl tx))])) (isC := [0, 1]) (isR := []) (isP := [0, 1]) E hS hA hP hD ⟨rfl, rfl, rfl, rfl, by decide, fun _ => rfl, rfl⟩ (CX2_standsDigit l D g _ a b L (i + n) o kd f1 f2 f3 tx (by first | assumption | omega) (by repeat' (first | assumption | omega | apply nmF_le | apply skF_le | apply rdF_le | apply bdF_le))) ⟨Nat.le_of_ble_eq_true rfl, Nat.le_of_ble_eq_true rfl⟩ rfl rfl 0 rfl rfl hl.1 rfl (Nat.le_of_ble_eq_true rfl) ⟨Nat.le_of_ble_eq_true rfl, Nat.le_of_ble_eq_true rfl⟩ dX2_readNumber_74 (fun r u H locs hw hP hD hS => ?_)
                have hP : va_P D vwCl ([(a, .inr (2, [.ref b, .int (nI L), .int (nI (i + n)), .int (optI o), .int kd, .int f1, .int f2, .int f3])), (b, .inl (g 0, 100, .inl tx))]) H := hP
                have hD : va_D A ([(a, .inr (2, [.ref b, .int (nI L), .int (nI (i + n)), .int (optI o), .int kd, .int f1, .int f2, .int f3])), (b, .inl (g 0, 100, .inl tx))]) := hD
                obtain ⟨r5, er5⟩ : ∃ z, z = r := ⟨_, rfl⟩
                rw [← er5] at hw ⊢; have hw6 := hw
                rcases hw6 with ⟨rfl, b_74⟩ | ⟨rfl, b_74⟩
                · skip
                  refine lv_if_eq (tgt := 91) hx hb dX2_readNumber_77 (by decide) (fun c_77 => ?_) (fun c_77 => ?_)
                  · exact absurd c_77 (by decide)
                  · skip
                    refine lv_aload_n hx hb dX2_readNumber_80 rfl (lv_at hl 0 rfl) ?_
                    refine lv_aload_n hx hb dX2_readNumber_81 rfl (lv_at hl 0 rfl) ?_
                    refine gf_X2_19 E hP 0 rfl rfl dX2_readNumber_82 ?_
                    refine cl_X2_55 (As := [.int (nI (i + n))]) (rest := []) (b := a) (wc := [(a, .inr (2, [.ref b, .int (nI L), .int (nI (i + n)), .int (optI o), .int kd, .int f1, .int f2, .int f3])), (b, .inl (g 0, 100, .inl tx))]) (wr := []) (wn := (fun _ => [(a, .inr (2, [.ref b, .int (nI L), .int (nI (i + n)), .int (optI (flF o (i + n))), .int kd, .int f1, .int f2, .int f3])), (b, .inl (g 0, 100, .inl tx))])) (isC := [0, 1]) (isR := []) (isP := [0, 1]) E hS hA hP hD ⟨rfl, rfl, rfl, rfl, by decide, fun _ => rfl, rfl⟩ (CX2_fail l D g _ a b L (i + n) o kd f1 f2 f3 tx (i + n) (by repeat' (first | assumption | omega | (intro q h; cases h; done) | apply nmF_er | apply skF_er | apply rdF_er | apply bdF_er | apply flF_le | apply nmF_le | apply skF_le | apply rdF_le | apply bdF_le))) ⟨Nat.le_of_ble_eq_true rfl, Nat.le_of_ble_eq_true rfl⟩ rfl rfl 0 rfl rfl hl.1 rfl (Nat.le_of_ble_eq_true rfl) ⟨Nat.le_of_ble_eq_true rfl, Nat.le_of_ble_eq_true rfl⟩ dX2_readNumber_85 (fun u H locs hw hP hD hS => ?_)
                    have hP : va_P D vwCl ([(a, .inr (2, [.ref b, .int (nI L), .int (nI (i + n)), .int (optI (flF o (i + n))), .int kd, .int f1, .int f2, .int f3])), (b, .inl (g 0, 100, .inl tx))]) H := hP
                    have hD : va_D A ([(a, .inr (2, [.ref b, .int (nI L), .int (nI (i + n)), .int (optI (flF o (i + n))), .int kd, .int f1, .int f2, .int f3])), (b, .inl (g 0, 100, .inl tx))]) := hD
                    refine lv_goto (tgt := 102) hx hb dX2_readNumber_88 (by decide) ?_
                    refine lv_iload hx hb dX2_readNumber_102 (lv_at hl 4 rfl) ?_
                    have hL : ((numI tx i n) : Int32) = (nmF tx L mx v i o).2.2 := by rw [(show nmF tx L mx v i o = (i + n, flF o (i + n), numI tx i n) from by rw [optN he c_16]; exact nmF_bad (scN_eq hd hm (Or.inr b_26)) (Or.inr b_74))]
                    exact g_iret hQ E M rfl hS hP hD () (by rw [(show nmF tx L mx v i o = (i + n, flF o (i + n), numI tx i n) from by rw [optN he c_16]; exact nmF_bad (scN_eq hd hm (Or.inr b_26)) (Or.inr b_74))]) (hL) dX2_readNumber_104
                · skip
                  refine lv_if_eq (tgt := 91) hx hb dX2_readNumber_77 (by decide) (fun c_77 => ?_) (fun c_77 => ?_)
                  · skip
                    refine lv_iload hx hb dX2_readNumber_91 (lv_at hl 4 rfl) ?_
                    refine lv_iload_n hx hb dX2_readNumber_93 rfl (lv_at hl 2 rfl) ?_
                    refine lv_icmp_le (tgt := 102) hx hb dX2_readNumber_94 (by decide) (fun c_94 => ?_) (fun c_94 => ?_)
                    · skip
                      refine lv_iload hx hb dX2_readNumber_102 (lv_at hl 4 rfl) ?_
                      have hL : ((numI tx i n) : Int32) = (nmF tx L mx v i o).2.2 := by rw [(show nmF tx L mx v i o = (i + n, o, numI tx i n) from by rw [optN he c_16]; exact nmF_ok (scN_eq hd hm (Or.inr b_26)) (nI_ne0' c_70) b_74 c_94)]
                      exact g_iret hQ E M rfl hS hP hD () (by rw [(show nmF tx L mx v i o = (i + n, o, numI tx i n) from by rw [optN he c_16]; exact nmF_ok (scN_eq hd hm (Or.inr b_26)) (nI_ne0' c_70) b_74 c_94)]) (hL) dX2_readNumber_104
                    · skip
                      refine lv_aload_n hx hb dX2_readNumber_97 rfl (lv_at hl 0 rfl) ?_
                      refine lv_iload_n hx hb dX2_readNumber_98 rfl (lv_at hl 3 rfl) ?_
                      refine cl_X2_55 (As := [.int (nI i)]) (rest := []) (b := a) (wc := [(a, .inr (2, [.ref b, .int (nI L), .int (nI (i + n)), .int (optI o), .int kd, .int f1, .int f2, .int f3])), (b, .inl (g 0, 100, .inl tx))]) (wr := []) (wn := (fun _ => [(a, .inr (2, [.ref b, .int (nI L), .int (nI (i + n)), .int (optI (flF o i)), .int kd, .int f1, .int f2, .int f3])), (b, .inl (g 0, 100, .inl tx))])) (isC := [0, 1]) (isR := []) (isP := [0, 1]) E hS hA hP hD ⟨rfl, rfl, rfl, rfl, by decide, fun _ => rfl, rfl⟩ (CX2_fail l D g _ a b L (i + n) o kd f1 f2 f3 tx i (by repeat' (first | assumption | omega | (intro q h; cases h; done) | apply nmF_er | apply skF_er | apply rdF_er | apply bdF_er | apply flF_le | apply nmF_le | apply skF_le | apply rdF_le | apply bdF_le))) ⟨Nat.le_of_ble_eq_true rfl, Nat.le_of_ble_eq_true rfl⟩ rfl rfl 0 rfl rfl hl.1 rfl (Nat.le_of_ble_eq_true rfl) ⟨Nat.le_of_ble_eq_true rfl, Nat.le_of_ble_eq_true rfl⟩ dX2_readNumber_99 (fun u H locs hw hP hD hS => ?_)
                      have hP : va_P D vwCl ([(a, .inr (2, [.ref b, .int (nI L), .int (nI (i + n)), .int (optI (flF o i)), .int kd, .int f1, .int f2, .int f3])), (b, .inl (g 0, 100, .inl tx))]) H := hP
                      have hD : va_D A ([(a, .inr (2, [.ref b, .int (nI L), .int (nI (i + n)), .int (optI (flF o i)), .int kd, .int f1, .int f2, .int f3])), (b, .inl (g 0, 100, .inl tx))]) := hD
                      refine lv_iload hx hb dX2_readNumber_102 (lv_at hl 4 rfl) ?_
                      have hL : ((numI tx i n) : Int32) = (nmF tx L mx v i o).2.2 := by rw [(show nmF tx L mx v i o = (i + n, flF o i, numI tx i n) from by rw [optN he c_16]; exact nmF_big (scN_eq hd hm (Or.inr b_26)) (nI_ne0' c_70) b_74 c_94)]
                      exact g_iret hQ E M rfl hS hP hD () (by rw [(show nmF tx L mx v i o = (i + n, flF o i, numI tx i n) from by rw [optN he c_16]; exact nmF_big (scN_eq hd hm (Or.inr b_26)) (nI_ne0' c_70) b_74 c_94)]) (hL) dX2_readNumber_104
                  · exact absurd c_77 (by decide)
            · exact absurd c_29 (by decide)
  exact LOOP_11 (mx - 0 + 1) 0 (Nat.zero_le _) hi (fun j hj => absurd hj (Nat.not_lt_zero _)) (fun h => absurd rfl h) (Nat.lt_succ_self _) _ _ _ hP hD hS (lv_sub hl [3, 4, 5, 2, 1, 0] rfl)
abbrev rm_X2_readBend : Room := { frames := 2, cells := 0, slots := 0, locals := 46 }
set_option maxHeartbeats 600000 in
set_option maxRecDepth 100000 in
theorem CX2_readBend (l : Launch) (D : va_G) (g : Nat → ClassId) (sz : Nat) (a b L i : Nat) (o : Option Nat) (kd f1 f2 f3 : Int32) (tx : Nat → Int32) (hL : L ≤ 100) (hi : i ≤ L) (he : ∀ q, o = some q → q ≤ 100) : Met l yX2_readBend (Cond.code yX2_readBend prog_4_method_6_code 3 none :: WA) rm_X2_readBend (va_Pc [.ref a] (Pre D g ([(a, .inr (2, [.ref b, .int (nI L), .int (nI i), .int (optI o), .int kd, .int f1, .int f2, .int f3])), (b, .inl (g 0, 100, .inl tx))]) sz)) (va_Qv (fun (u : (Nat × Option Nat × Int32 × Int32 × Int32)) => match u with | (i9, o9, a9, b9, c9) => (i9, o9, a9, b9, c9) = bdF tx L i o) (fun (u : (Nat × Option Nat × Int32 × Int32 × Int32)) t => Bp D g (va_A ([(a, .inr (2, [.ref b, .int (nI L), .int (nI i), .int (optI o), .int kd, .int f1, .int f2, .int f3])), (b, .inl (g 0, 100, .inl tx))]) sz) (match u with | (i9, o9, a9, b9, c9) => [(a, .inr (2, [.ref b, .int (nI L), .int (nI i9), .int (optI o9), .int kd, .int a9, .int b9, .int c9])), (b, .inl (g 0, 100, .inl tx))]) t) (va_A ([(a, .inr (2, [.ref b, .int (nI L), .int (nI i), .int (optI o), .int kd, .int f1, .int f2, .int f3])), (b, .inl (g 0, 100, .inl tx))]) sz)) 0 0 (va_A ([(a, .inr (2, [.ref b, .int (nI L), .int (nI i), .int (optI o), .int kd, .int f1, .int f2, .int f3])), (b, .inl (g 0, 100, .inl tx))]) sz) := by
  refine g_met (av := [.ref a]) (QcA := fun A => va_Qv (fun (u : (Nat × Option Nat × Int32 × Int32 × Int32)) => match u with | (i9, o9, a9, b9, c9) => (i9, o9, a9, b9, c9) = bdF tx L i o) (fun (u : (Nat × Option Nat × Int32 × Int32 × Int32)) t => Bp D g A (match u with | (i9, o9, a9, b9, c9) => [(a, .inr (2, [.ref b, .int (nI L), .int (nI i9), .int (optI o9), .int kd, .int a9, .int b9, .int c9])), (b, .inl (g 0, 100, .inl tx))]) t) A) rfl (Nat.le_of_ble_eq_true rfl) ?_
  intro p e s m below meth c A Q ls E M hP hD hS hA hQ hl
  have hx := E.1.1
  have hb := E.1.2.1
  have hl : lv_has ls 3 [(0, .ref a)] := hl
  refine lv_aload_n hx hb dX2_readBend_0 rfl (lv_at hl 0 rfl) ?_
  refine lv_aload_n hx hb dX2_readBend_1 rfl (lv_at hl 0 rfl) ?_
  refine lv_iconst (v := 1) hx hb dX2_readBend_2 (by decide) ?_
  refine cl_X2_58 (As := [.int 1]) (rest := [.ref a]) (b := a) (wc := [(a, .inr (2, [.ref b, .int (nI L), .int (nI i), .int (optI o), .int kd, .int f1, .int f2, .int f3])), (b, .inl (g 0, 100, .inl tx))]) (wr := []) (wn := (fun _ => [(a, .inr (2, [.ref b, .int (nI L), .int (nI (rdF tx L 1 i o).1), .int (optI (rdF tx L 1 i o).2.1), .int kd, .int f1, .int f2, .int f3])), (b, .inl (g 0, 100, .inl tx))])) (isC := [0, 1]) (isR := []) (isP := [0, 1]) E hS hA hP hD ⟨rfl, rfl, rfl, rfl, by decide, fun _ => rfl, rfl⟩ (CX2_readDigit l D g _ a b L i o kd f1 f2 f3 tx 1 (by first | assumption | omega) (by repeat' (first | assumption | omega | apply nmF_le | apply skF_le | apply rdF_le | apply bdF_le)) (by repeat' (first | assumption | omega | (intro q h; cases h; done) | apply nmF_er | apply skF_er | apply rdF_er | apply bdF_er | apply flF_le | apply nmF_le | apply skF_le | apply rdF_le | apply bdF_le))) ⟨Nat.le_of_ble_eq_true rfl, Nat.le_of_ble_eq_true rfl⟩ rfl rfl 0 rfl rfl hl.1 rfl (Nat.le_of_ble_eq_true rfl) ⟨Nat.le_of_ble_eq_true rfl, Nat.le_of_ble_eq_true rfl⟩ dX2_readBend_3 (fun r u H locs hw hP hD hS => ?_)
  have hP : va_P D vwCl ([(a, .inr (2, [.ref b, .int (nI L), .int (nI (rdF tx L 1 i o).1), .int (optI (rdF tx L 1 i o).2.1), .int kd, .int f1, .int f2, .int f3])), (b, .inl (g 0, 100, .inl tx))]) H := hP
  have hD : va_D A ([(a, .inr (2, [.ref b, .int (nI L), .int (nI (rdF tx L 1 i o).1), .int (optI (rdF tx L 1 i o).2.1), .int kd, .int f1, .int f2, .int f3])), (b, .inl (g 0, 100, .inl tx))]) := hD
  subst hw
  refine gp_X2_28 E hP hD hS 0 rfl rfl rfl (Nat.le_of_ble_eq_true rfl) dX2_readBend_6 (fun H locs hP hD hS => ?_)
  have hP : va_P D vwCl ([(a, .inr (2, [.ref b, .int (nI L), .int (nI (rdF tx L 1 i o).1), .int (optI (rdF tx L 1 i o).2.1), .int kd, .int ((rdF tx L 1 i o).2.2), .int f2, .int f3])), (b, .inl (g 0, 100, .inl tx))]) H := hP
  have hD : va_D A ([(a, .inr (2, [.ref b, .int (nI L), .int (nI (rdF tx L 1 i o).1), .int (optI (rdF tx L 1 i o).2.1), .int kd, .int ((rdF tx L 1 i o).2.2), .int f2, .int f3])), (b, .inl (g 0, 100, .inl tx))]) := hD
  refine lv_aload_n hx hb dX2_readBend_9 rfl (lv_at hl 0 rfl) ?_
  refine lv_aload_n hx hb dX2_readBend_10 rfl (lv_at hl 0 rfl) ?_
  refine lv_iconst (v := 3) hx hb dX2_readBend_11 (by decide) ?_
  refine cl_X2_58 (As := [.int 3]) (rest := [.ref a]) (b := a) (wc := [(a, .inr (2, [.ref b, .int (nI L), .int (nI (rdF tx L 1 i o).1), .int (optI (rdF tx L 1 i o).2.1), .int kd, .int ((rdF tx L 1 i o).2.2), .int f2, .int f3])), (b, .inl (g 0, 100, .inl tx))]) (wr := []) (wn := (fun _ => [(a, .inr (2, [.ref b, .int (nI L), .int (nI (rdF tx L 3 ((rdF tx L 1 i o).1) ((rdF tx L 1 i o).2.1)).1), .int (optI (rdF tx L 3 ((rdF tx L 1 i o).1) ((rdF tx L 1 i o).2.1)).2.1), .int kd, .int ((rdF tx L 1 i o).2.2), .int f2, .int f3])), (b, .inl (g 0, 100, .inl tx))])) (isC := [0, 1]) (isR := []) (isP := [0, 1]) E hS hA hP hD ⟨rfl, rfl, rfl, rfl, by decide, fun _ => rfl, rfl⟩ (CX2_readDigit l D g _ a b L ((rdF tx L 1 i o).1) ((rdF tx L 1 i o).2.1) kd ((rdF tx L 1 i o).2.2) f2 f3 tx 3 (by first | assumption | omega) (by repeat' (first | assumption | omega | apply nmF_le | apply skF_le | apply rdF_le | apply bdF_le)) (by repeat' (first | assumption | omega | (intro q h; cases h; done) | apply nmF_er | apply skF_er | apply rdF_er | apply bdF_er | apply flF_le | apply nmF_le | apply skF_le | apply rdF_le | apply bdF_le))) ⟨Nat.le_of_ble_eq_true rfl, Nat.le_of_ble_eq_true rfl⟩ rfl rfl 0 rfl rfl hl.1 rfl (Nat.le_of_ble_eq_true rfl) ⟨Nat.le_of_ble_eq_true rfl, Nat.le_of_ble_eq_true rfl⟩ dX2_readBend_12 (fun r u H locs hw hP hD hS => ?_)
  have hP : va_P D vwCl ([(a, .inr (2, [.ref b, .int (nI L), .int (nI (rdF tx L 3 ((rdF tx L 1 i o).1) ((rdF tx L 1 i o).2.1)).1), .int (optI (rdF tx L 3 ((rdF tx L 1 i o).1) ((rdF tx L 1 i o).2.1)).2.1), .int kd, .int ((rdF tx L 1 i o).2.2), .int f2, .int f3])), (b, .inl (g 0, 100, .inl tx))]) H := hP
  have hD : va_D A ([(a, .inr (2, [.ref b, .int (nI L), .int (nI (rdF tx L 3 ((rdF tx L 1 i o).1) ((rdF tx L 1 i o).2.1)).1), .int (optI (rdF tx L 3 ((rdF tx L 1 i o).1) ((rdF tx L 1 i o).2.1)).2.1), .int kd, .int ((rdF tx L 1 i o).2.2), .int f2, .int f3])), (b, .inl (g 0, 100, .inl tx))]) := hD
  subst hw
  refine gp_X2_31 E hP hD hS 0 rfl rfl rfl (Nat.le_of_ble_eq_true rfl) dX2_readBend_15 (fun H locs hP hD hS => ?_)
  have hP : va_P D vwCl ([(a, .inr (2, [.ref b, .int (nI L), .int (nI (rdF tx L 3 ((rdF tx L 1 i o).1) ((rdF tx L 1 i o).2.1)).1), .int (optI (rdF tx L 3 ((rdF tx L 1 i o).1) ((rdF tx L 1 i o).2.1)).2.1), .int kd, .int ((rdF tx L 1 i o).2.2), .int ((rdF tx L 3 ((rdF tx L 1 i o).1) ((rdF tx L 1 i o).2.1)).2.2), .int f3])), (b, .inl (g 0, 100, .inl tx))]) H := hP
  have hD : va_D A ([(a, .inr (2, [.ref b, .int (nI L), .int (nI (rdF tx L 3 ((rdF tx L 1 i o).1) ((rdF tx L 1 i o).2.1)).1), .int (optI (rdF tx L 3 ((rdF tx L 1 i o).1) ((rdF tx L 1 i o).2.1)).2.1), .int kd, .int ((rdF tx L 1 i o).2.2), .int ((rdF tx L 3 ((rdF tx L 1 i o).1) ((rdF tx L 1 i o).2.1)).2.2), .int f3])), (b, .inl (g 0, 100, .inl tx))]) := hD
  refine lv_aload_n hx hb dX2_readBend_18 rfl (lv_at hl 0 rfl) ?_
  refine gf_X2_19 E hP 0 rfl rfl dX2_readBend_19 ?_
  refine lv_aload_n hx hb dX2_readBend_22 rfl (lv_at hl 0 rfl) ?_
  refine gf_X2_15 E hP 0 rfl rfl dX2_readBend_23 ?_
  refine lv_icmp_ge (tgt := 47) hx hb dX2_readBend_26 (by decide) (fun c_26 => ?_) (fun c_26 => ?_)
  · skip
    refine lv_iconst (v := 0) hx hb dX2_readBend_47 (by decide) ?_
    refine lv_istore_n (lv' := [(1, .int 0), (0, .ref a)]) hx hb dX2_readBend_48 rfl hl (by decide) rfl (fun ls hl => ?_)
    refine lv_aload_n hx hb dX2_readBend_49 rfl (lv_at hl 1 rfl) ?_
    refine lv_iload_n hx hb dX2_readBend_50 rfl (lv_at hl 0 rfl) ?_
    refine lv_if_eq (tgt := 59) hx hb dX2_readBend_51 (by decide) (fun c_51 => ?_) (fun c_51 => ?_)
    · skip
      refine lv_bipush (v := 43) hx hb dX2_readBend_59 (by decide) ?_
      refine cl_X2_48 (As := [.int 43]) (rest := []) (b := a) (wc := [(a, .inr (2, [.ref b, .int (nI L), .int (nI (rdF tx L 3 ((rdF tx L 1 i o).1) ((rdF tx L 1 i o).2.1)).1), .int (optI (rdF tx L 3 ((rdF tx L 1 i o).1) ((rdF tx L 1 i o).2.1)).2.1), .int kd, .int ((rdF tx L 1 i o).2.2), .int ((rdF tx L 3 ((rdF tx L 1 i o).1) ((rdF tx L 1 i o).2.1)).2.2), .int f3])), (b, .inl (g 0, 100, .inl tx))]) (wr := []) (wn := (fun _ => [(a, .inr (2, [.ref b, .int (nI L), .int (nI (skF tx L 43 ((rdF tx L 3 (rdF tx L 1 i o).1 (rdF tx L 1 i o).2.1).1) ((rdF tx L 3 (rdF tx L 1 i o).1 (rdF tx L 1 i o).2.1).2.1)).1), .int (optI (skF tx L 43 ((rdF tx L 3 (rdF tx L 1 i o).1 (rdF tx L 1 i o).2.1).1) ((rdF tx L 3 (rdF tx L 1 i o).1 (rdF tx L 1 i o).2.1).2.1)).2), .int kd, .int ((rdF tx L 1 i o).2.2), .int ((rdF tx L 3 ((rdF tx L 1 i o).1) ((rdF tx L 1 i o).2.1)).2.2), .int f3])), (b, .inl (g 0, 100, .inl tx))])) (isC := [0, 1]) (isR := []) (isP := [0, 1]) E hS hA hP hD ⟨rfl, rfl, rfl, rfl, by decide, fun _ => rfl, rfl⟩ (CX2_skip l D g _ a b L ((rdF tx L 3 (rdF tx L 1 i o).1 (rdF tx L 1 i o).2.1).1) ((rdF tx L 3 (rdF tx L 1 i o).1 (rdF tx L 1 i o).2.1).2.1) kd ((rdF tx L 1 i o).2.2) ((rdF tx L 3 ((rdF tx L 1 i o).1) ((rdF tx L 1 i o).2.1)).2.2) f3 tx 43 (by first | assumption | omega) (by repeat' (first | assumption | omega | apply nmF_le | apply skF_le | apply rdF_le | apply bdF_le)) (by repeat' (first | assumption | omega | (intro q h; cases h; done) | apply nmF_er | apply skF_er | apply rdF_er | apply bdF_er | apply flF_le | apply nmF_le | apply skF_le | apply rdF_le | apply bdF_le))) ⟨Nat.le_of_ble_eq_true rfl, Nat.le_of_ble_eq_true rfl⟩ rfl rfl 0 rfl rfl hl.1 rfl (Nat.le_of_ble_eq_true rfl) ⟨Nat.le_of_ble_eq_true rfl, Nat.le_of_ble_eq_true rfl⟩ dX2_readBend_61 (fun u H locs hw hP hD hS => ?_)
      have hP : va_P D vwCl ([(a, .inr (2, [.ref b, .int (nI L), .int (nI (skF tx L 43 ((rdF tx L 3 (rdF tx L 1 i o).1 (rdF tx L 1 i o).2.1).1) ((rdF tx L 3 (rdF tx L 1 i o).1 (rdF tx L 1 i o).2.1).2.1)).1), .int (optI (skF tx L 43 ((rdF tx L 3 (rdF tx L 1 i o).1 (rdF tx L 1 i o).2.1).1) ((rdF tx L 3 (rdF tx L 1 i o).1 (rdF tx L 1 i o).2.1).2.1)).2), .int kd, .int ((rdF tx L 1 i o).2.2), .int ((rdF tx L 3 ((rdF tx L 1 i o).1) ((rdF tx L 1 i o).2.1)).2.2), .int f3])), (b, .inl (g 0, 100, .inl tx))]) H := hP
      have hD : va_D A ([(a, .inr (2, [.ref b, .int (nI L), .int (nI (skF tx L 43 ((rdF tx L 3 (rdF tx L 1 i o).1 (rdF tx L 1 i o).2.1).1) ((rdF tx L 3 (rdF tx L 1 i o).1 (rdF tx L 1 i o).2.1).2.1)).1), .int (optI (skF tx L 43 ((rdF tx L 3 (rdF tx L 1 i o).1 (rdF tx L 1 i o).2.1).1) ((rdF tx L 3 (rdF tx L 1 i o).1 (rdF tx L 1 i o).2.1).2.1)).2), .int kd, .int ((rdF tx L 1 i o).2.2), .int ((rdF tx L 3 ((rdF tx L 1 i o).1) ((rdF tx L 1 i o).2.1)).2.2), .int f3])), (b, .inl (g 0, 100, .inl tx))]) := hD
      refine lv_aload_n hx hb dX2_readBend_64 rfl (lv_at hl 1 rfl) ?_
      refine lv_iconst (v := 3) hx hb dX2_readBend_65 (by decide) ?_
      refine lv_bipush (v := 120) hx hb dX2_readBend_66 (by decide) ?_
      refine cl_X2_44 (As := [.int 3, .int 120]) (rest := []) (b := a) (wc := [(a, .inr (2, [.ref b, .int (nI L), .int (nI (skF tx L 43 ((rdF tx L 3 (rdF tx L 1 i o).1 (rdF tx L 1 i o).2.1).1) ((rdF tx L 3 (rdF tx L 1 i o).1 (rdF tx L 1 i o).2.1).2.1)).1), .int (optI (skF tx L 43 ((rdF tx L 3 (rdF tx L 1 i o).1 (rdF tx L 1 i o).2.1).1) ((rdF tx L 3 (rdF tx L 1 i o).1 (rdF tx L 1 i o).2.1).2.1)).2), .int kd, .int ((rdF tx L 1 i o).2.2), .int ((rdF tx L 3 ((rdF tx L 1 i o).1) ((rdF tx L 1 i o).2.1)).2.2), .int f3])), (b, .inl (g 0, 100, .inl tx))]) (wr := []) (wn := (fun _ => [(a, .inr (2, [.ref b, .int (nI L), .int (nI (nmF tx L 3 120 ((skF tx L 43 (rdF tx L 3 (rdF tx L 1 i o).1 (rdF tx L 1 i o).2.1).1 (rdF tx L 3 (rdF tx L 1 i o).1 (rdF tx L 1 i o).2.1).2.1).1) ((skF tx L 43 (rdF tx L 3 (rdF tx L 1 i o).1 (rdF tx L 1 i o).2.1).1 (rdF tx L 3 (rdF tx L 1 i o).1 (rdF tx L 1 i o).2.1).2.1).2)).1), .int (optI (nmF tx L 3 120 ((skF tx L 43 (rdF tx L 3 (rdF tx L 1 i o).1 (rdF tx L 1 i o).2.1).1 (rdF tx L 3 (rdF tx L 1 i o).1 (rdF tx L 1 i o).2.1).2.1).1) ((skF tx L 43 (rdF tx L 3 (rdF tx L 1 i o).1 (rdF tx L 1 i o).2.1).1 (rdF tx L 3 (rdF tx L 1 i o).1 (rdF tx L 1 i o).2.1).2.1).2)).2.1), .int kd, .int ((rdF tx L 1 i o).2.2), .int ((rdF tx L 3 ((rdF tx L 1 i o).1) ((rdF tx L 1 i o).2.1)).2.2), .int f3])), (b, .inl (g 0, 100, .inl tx))])) (isC := [0, 1]) (isR := []) (isP := [0, 1]) E hS hA hP hD ⟨rfl, rfl, rfl, rfl, by decide, fun _ => rfl, rfl⟩ (CX2_readNumber l D g _ a b L ((skF tx L 43 (rdF tx L 3 (rdF tx L 1 i o).1 (rdF tx L 1 i o).2.1).1 (rdF tx L 3 (rdF tx L 1 i o).1 (rdF tx L 1 i o).2.1).2.1).1) ((skF tx L 43 (rdF tx L 3 (rdF tx L 1 i o).1 (rdF tx L 1 i o).2.1).1 (rdF tx L 3 (rdF tx L 1 i o).1 (rdF tx L 1 i o).2.1).2.1).2) kd ((rdF tx L 1 i o).2.2) ((rdF tx L 3 ((rdF tx L 1 i o).1) ((rdF tx L 1 i o).2.1)).2.2) f3 tx 3 120 (by first | assumption | omega) (by repeat' (first | assumption | omega | apply nmF_le | apply skF_le | apply rdF_le | apply bdF_le)) (by repeat' (first | assumption | omega | (intro q h; cases h; done) | apply nmF_er | apply skF_er | apply rdF_er | apply bdF_er | apply flF_le | apply nmF_le | apply skF_le | apply rdF_le | apply bdF_le)) (by decide)) ⟨Nat.le_of_ble_eq_true rfl, Nat.le_of_ble_eq_true rfl⟩ rfl rfl 0 rfl rfl hl.1 rfl (Nat.le_of_ble_eq_true rfl) ⟨Nat.le_of_ble_eq_true rfl, Nat.le_of_ble_eq_true rfl⟩ dX2_readBend_68 (fun r u H locs hw hP hD hS => ?_)
      have hP : va_P D vwCl ([(a, .inr (2, [.ref b, .int (nI L), .int (nI (nmF tx L 3 120 ((skF tx L 43 (rdF tx L 3 (rdF tx L 1 i o).1 (rdF tx L 1 i o).2.1).1 (rdF tx L 3 (rdF tx L 1 i o).1 (rdF tx L 1 i o).2.1).2.1).1) ((skF tx L 43 (rdF tx L 3 (rdF tx L 1 i o).1 (rdF tx L 1 i o).2.1).1 (rdF tx L 3 (rdF tx L 1 i o).1 (rdF tx L 1 i o).2.1).2.1).2)).1), .int (optI (nmF tx L 3 120 ((skF tx L 43 (rdF tx L 3 (rdF tx L 1 i o).1 (rdF tx L 1 i o).2.1).1 (rdF tx L 3 (rdF tx L 1 i o).1 (rdF tx L 1 i o).2.1).2.1).1) ((skF tx L 43 (rdF tx L 3 (rdF tx L 1 i o).1 (rdF tx L 1 i o).2.1).1 (rdF tx L 3 (rdF tx L 1 i o).1 (rdF tx L 1 i o).2.1).2.1).2)).2.1), .int kd, .int ((rdF tx L 1 i o).2.2), .int ((rdF tx L 3 ((rdF tx L 1 i o).1) ((rdF tx L 1 i o).2.1)).2.2), .int f3])), (b, .inl (g 0, 100, .inl tx))]) H := hP
      have hD : va_D A ([(a, .inr (2, [.ref b, .int (nI L), .int (nI (nmF tx L 3 120 ((skF tx L 43 (rdF tx L 3 (rdF tx L 1 i o).1 (rdF tx L 1 i o).2.1).1 (rdF tx L 3 (rdF tx L 1 i o).1 (rdF tx L 1 i o).2.1).2.1).1) ((skF tx L 43 (rdF tx L 3 (rdF tx L 1 i o).1 (rdF tx L 1 i o).2.1).1 (rdF tx L 3 (rdF tx L 1 i o).1 (rdF tx L 1 i o).2.1).2.1).2)).1), .int (optI (nmF tx L 3 120 ((skF tx L 43 (rdF tx L 3 (rdF tx L 1 i o).1 (rdF tx L 1 i o).2.1).1 (rdF tx L 3 (rdF tx L 1 i o).1 (rdF tx L 1 i o).2.1).2.1).1) ((skF tx L 43 (rdF tx L 3 (rdF tx L 1 i o).1 (rdF tx L 1 i o).2.1).1 (rdF tx L 3 (rdF tx L 1 i o).1 (rdF tx L 1 i o).2.1).2.1).2)).2.1), .int kd, .int ((rdF tx L 1 i o).2.2), .int ((rdF tx L 3 ((rdF tx L 1 i o).1) ((rdF tx L 1 i o).2.1)).2.2), .int f3])), (b, .inl (g 0, 100, .inl tx))]) := hD
      subst hw
      refine lv_istore_n (lv' := [(2, .int ((nmF tx L 3 120 ((skF tx L 43 (rdF tx L 3 (rdF tx L 1 i o).1 (rdF tx L 1 i o).2.1).1 (rdF tx L 3 (rdF tx L 1 i o).1 (rdF tx L 1 i o).2.1).2.1).1) ((skF tx L 43 (rdF tx L 3 (rdF tx L 1 i o).1 (rdF tx L 1 i o).2.1).1 (rdF tx L 3 (rdF tx L 1 i o).1 (rdF tx L 1 i o).2.1).2.1).2)).2.2)), (1, .int 0), (0, .ref a)]) hx hb dX2_readBend_71 rfl hl (by decide) rfl (fun ls hl => ?_)
      refine lv_aload_n hx hb dX2_readBend_72 rfl (lv_at hl 2 rfl) ?_
      refine lv_iload_n hx hb dX2_readBend_73 rfl (lv_at hl 1 rfl) ?_
      refine lv_if_eq (tgt := 82) hx hb dX2_readBend_74 (by decide) (fun c_74 => ?_) (fun c_74 => ?_)
      · skip
        refine lv_iload_n hx hb dX2_readBend_82 rfl (lv_at hl 0 rfl) ?_
        refine gp_X2_34 E hP hD hS 0 rfl rfl rfl (Nat.le_of_ble_eq_true rfl) dX2_readBend_83 (fun H locs hP hD hS => ?_)
        have hP : va_P D vwCl ([(a, .inr (2, [.ref b, .int (nI L), .int (nI (nmF tx L 3 120 ((skF tx L 43 (rdF tx L 3 (rdF tx L 1 i o).1 (rdF tx L 1 i o).2.1).1 (rdF tx L 3 (rdF tx L 1 i o).1 (rdF tx L 1 i o).2.1).2.1).1) ((skF tx L 43 (rdF tx L 3 (rdF tx L 1 i o).1 (rdF tx L 1 i o).2.1).1 (rdF tx L 3 (rdF tx L 1 i o).1 (rdF tx L 1 i o).2.1).2.1).2)).1), .int (optI (nmF tx L 3 120 ((skF tx L 43 (rdF tx L 3 (rdF tx L 1 i o).1 (rdF tx L 1 i o).2.1).1 (rdF tx L 3 (rdF tx L 1 i o).1 (rdF tx L 1 i o).2.1).2.1).1) ((skF tx L 43 (rdF tx L 3 (rdF tx L 1 i o).1 (rdF tx L 1 i o).2.1).1 (rdF tx L 3 (rdF tx L 1 i o).1 (rdF tx L 1 i o).2.1).2.1).2)).2.1), .int kd, .int ((rdF tx L 1 i o).2.2), .int ((rdF tx L 3 ((rdF tx L 1 i o).1) ((rdF tx L 1 i o).2.1)).2.2), .int ((nmF tx L 3 120 ((skF tx L 43 (rdF tx L 3 (rdF tx L 1 i o).1 (rdF tx L 1 i o).2.1).1 (rdF tx L 3 (rdF tx L 1 i o).1 (rdF tx L 1 i o).2.1).2.1).1) ((skF tx L 43 (rdF tx L 3 (rdF tx L 1 i o).1 (rdF tx L 1 i o).2.1).1 (rdF tx L 3 (rdF tx L 1 i o).1 (rdF tx L 1 i o).2.1).2.1).2)).2.2)])), (b, .inl (g 0, 100, .inl tx))]) H := hP
        have hD : va_D A ([(a, .inr (2, [.ref b, .int (nI L), .int (nI (nmF tx L 3 120 ((skF tx L 43 (rdF tx L 3 (rdF tx L 1 i o).1 (rdF tx L 1 i o).2.1).1 (rdF tx L 3 (rdF tx L 1 i o).1 (rdF tx L 1 i o).2.1).2.1).1) ((skF tx L 43 (rdF tx L 3 (rdF tx L 1 i o).1 (rdF tx L 1 i o).2.1).1 (rdF tx L 3 (rdF tx L 1 i o).1 (rdF tx L 1 i o).2.1).2.1).2)).1), .int (optI (nmF tx L 3 120 ((skF tx L 43 (rdF tx L 3 (rdF tx L 1 i o).1 (rdF tx L 1 i o).2.1).1 (rdF tx L 3 (rdF tx L 1 i o).1 (rdF tx L 1 i o).2.1).2.1).1) ((skF tx L 43 (rdF tx L 3 (rdF tx L 1 i o).1 (rdF tx L 1 i o).2.1).1 (rdF tx L 3 (rdF tx L 1 i o).1 (rdF tx L 1 i o).2.1).2.1).2)).2.1), .int kd, .int ((rdF tx L 1 i o).2.2), .int ((rdF tx L 3 ((rdF tx L 1 i o).1) ((rdF tx L 1 i o).2.1)).2.2), .int ((nmF tx L 3 120 ((skF tx L 43 (rdF tx L 3 (rdF tx L 1 i o).1 (rdF tx L 1 i o).2.1).1 (rdF tx L 3 (rdF tx L 1 i o).1 (rdF tx L 1 i o).2.1).2.1).1) ((skF tx L 43 (rdF tx L 3 (rdF tx L 1 i o).1 (rdF tx L 1 i o).2.1).1 (rdF tx L 3 (rdF tx L 1 i o).1 (rdF tx L 1 i o).2.1).2.1).2)).2.2)])), (b, .inl (g 0, 100, .inl tx))]) := hD
        exact g_vret hQ E M rfl hS hP hD ((nmF tx L 3 120 ((skF tx L 43 (rdF tx L 3 (rdF tx L 1 i o).1 (rdF tx L 1 i o).2.1).1 (rdF tx L 3 (rdF tx L 1 i o).1 (rdF tx L 1 i o).2.1).2.1).1) ((skF tx L 43 (rdF tx L 3 (rdF tx L 1 i o).1 (rdF tx L 1 i o).2.1).1 (rdF tx L 3 (rdF tx L 1 i o).1 (rdF tx L 1 i o).2.1).2.1).2)).1, (nmF tx L 3 120 ((skF tx L 43 (rdF tx L 3 (rdF tx L 1 i o).1 (rdF tx L 1 i o).2.1).1 (rdF tx L 3 (rdF tx L 1 i o).1 (rdF tx L 1 i o).2.1).2.1).1) ((skF tx L 43 (rdF tx L 3 (rdF tx L 1 i o).1 (rdF tx L 1 i o).2.1).1 (rdF tx L 3 (rdF tx L 1 i o).1 (rdF tx L 1 i o).2.1).2.1).2)).2.1, ((rdF tx L 1 i o).2.2), ((rdF tx L 3 ((rdF tx L 1 i o).1) ((rdF tx L 1 i o).2.1)).2.2), ((nmF tx L 3 120 ((skF tx L 43 (rdF tx L 3 (rdF tx L 1 i o).1 (rdF tx L 1 i o).2.1).1 (rdF tx L 3 (rdF tx L 1 i o).1 (rdF tx L 1 i o).2.1).2.1).1) ((skF tx L 43 (rdF tx L 3 (rdF tx L 1 i o).1 (rdF tx L 1 i o).2.1).1 (rdF tx L 3 (rdF tx L 1 i o).1 (rdF tx L 1 i o).2.1).2.1).2)).2.2)) rfl (by unfold bdF; dsimp only; rw [if_neg (show ¬ (_ ∧ _) from fun z => absurd z.1 (Nat.not_lt.mpr (nI_le_of c_26 (by have := rdF_le (tx := tx) (g := 3) (o := (rdF tx L 1 i o).2.1) (rdF_le (tx := tx) (g := 1) (o := o) hi); omega) (by have := rdF_le (tx := tx) (g := 3) (o := (rdF tx L 1 i o).2.1) (rdF_le (tx := tx) (g := 1) (o := o) hi); omega)))), if_neg (show ¬ (_ ∧ _) from fun z => absurd z.1 (Nat.not_lt.mpr (nI_le_of c_26 (by have := rdF_le (tx := tx) (g := 3) (o := (rdF tx L 1 i o).2.1) (rdF_le (tx := tx) (g := 1) (o := o) hi); omega) (by have := rdF_le (tx := tx) (g := 3) (o := (rdF tx L 1 i o).2.1) (rdF_le (tx := tx) (g := 1) (o := o) hi); omega))))]) dX2_readBend_86
      · exact absurd c_74 (by decide)
    · exact absurd c_51 (by decide)
  · skip
    have hlt : (rdF tx L 3 (rdF tx L 1 i o).1 (rdF tx L 1 i o).2.1).1 < L := nI_nle_of c_26 (by omega) (by have := rdF_le (tx := tx) (g := 3) (o := (rdF tx L 1 i o).2.1) (rdF_le (tx := tx) (g := 1) (o := o) hi); omega)
    refine lv_aload_n hx hb dX2_readBend_29 rfl (lv_at hl 0 rfl) ?_
    refine gf_X2_9 E hP 0 rfl rfl dX2_readBend_30 ?_
    refine lv_aload_n hx hb dX2_readBend_33 rfl (lv_at hl 0 rfl) ?_
    refine gf_X2_19 E hP 0 rfl rfl dX2_readBend_34 ?_
    refine g_iald E hP 1 rfl ((rdF tx L 3 ((rdF tx L 1 i o).1) ((rdF tx L 1 i o).2.1)).1) rfl (by omega) (Nat.le_of_ble_eq_true rfl) dX2_readBend_37 ?_
    refine lv_bipush (v := 45) hx hb dX2_readBend_38 (by decide) ?_
    refine lv_icmp_ne (tgt := 47) hx hb dX2_readBend_40 (by decide) (fun c_40 => ?_) (fun c_40 => ?_)
    · skip
      refine lv_iconst (v := 0) hx hb dX2_readBend_47 (by decide) ?_
      refine lv_istore_n (lv' := [(1, .int 0), (0, .ref a)]) hx hb dX2_readBend_48 rfl hl (by decide) rfl (fun ls hl => ?_)
      refine lv_aload_n hx hb dX2_readBend_49 rfl (lv_at hl 1 rfl) ?_
      refine lv_iload_n hx hb dX2_readBend_50 rfl (lv_at hl 0 rfl) ?_
      refine lv_if_eq (tgt := 59) hx hb dX2_readBend_51 (by decide) (fun c_51 => ?_) (fun c_51 => ?_)
      · skip
        refine lv_bipush (v := 43) hx hb dX2_readBend_59 (by decide) ?_
        refine cl_X2_48 (As := [.int 43]) (rest := []) (b := a) (wc := [(a, .inr (2, [.ref b, .int (nI L), .int (nI (rdF tx L 3 ((rdF tx L 1 i o).1) ((rdF tx L 1 i o).2.1)).1), .int (optI (rdF tx L 3 ((rdF tx L 1 i o).1) ((rdF tx L 1 i o).2.1)).2.1), .int kd, .int ((rdF tx L 1 i o).2.2), .int ((rdF tx L 3 ((rdF tx L 1 i o).1) ((rdF tx L 1 i o).2.1)).2.2), .int f3])), (b, .inl (g 0, 100, .inl tx))]) (wr := []) (wn := (fun _ => [(a, .inr (2, [.ref b, .int (nI L), .int (nI (skF tx L 43 ((rdF tx L 3 (rdF tx L 1 i o).1 (rdF tx L 1 i o).2.1).1) ((rdF tx L 3 (rdF tx L 1 i o).1 (rdF tx L 1 i o).2.1).2.1)).1), .int (optI (skF tx L 43 ((rdF tx L 3 (rdF tx L 1 i o).1 (rdF tx L 1 i o).2.1).1) ((rdF tx L 3 (rdF tx L 1 i o).1 (rdF tx L 1 i o).2.1).2.1)).2), .int kd, .int ((rdF tx L 1 i o).2.2), .int ((rdF tx L 3 ((rdF tx L 1 i o).1) ((rdF tx L 1 i o).2.1)).2.2), .int f3])), (b, .inl (g 0, 100, .inl tx))])) (isC := [0, 1]) (isR := []) (isP := [0, 1]) E hS hA hP hD ⟨rfl, rfl, rfl, rfl, by decide, fun _ => rfl, rfl⟩ (CX2_skip l D g _ a b L ((rdF tx L 3 (rdF tx L 1 i o).1 (rdF tx L 1 i o).2.1).1) ((rdF tx L 3 (rdF tx L 1 i o).1 (rdF tx L 1 i o).2.1).2.1) kd ((rdF tx L 1 i o).2.2) ((rdF tx L 3 ((rdF tx L 1 i o).1) ((rdF tx L 1 i o).2.1)).2.2) f3 tx 43 (by first | assumption | omega) (by repeat' (first | assumption | omega | apply nmF_le | apply skF_le | apply rdF_le | apply bdF_le)) (by repeat' (first | assumption | omega | (intro q h; cases h; done) | apply nmF_er | apply skF_er | apply rdF_er | apply bdF_er | apply flF_le | apply nmF_le | apply skF_le | apply rdF_le | apply bdF_le))) ⟨Nat.le_of_ble_eq_true rfl, Nat.le_of_ble_eq_true rfl⟩ rfl rfl 0 rfl rfl hl.1 rfl (Nat.le_of_ble_eq_true rfl) ⟨Nat.le_of_ble_eq_true rfl, Nat.le_of_ble_eq_true rfl⟩ dX2_readBend_61 (fun u H locs hw hP hD hS => ?_)
        have hP : va_P D vwCl ([(a, .inr (2, [.ref b, .int (nI L), .int (nI (skF tx L 43 ((rdF tx L 3 (rdF tx L 1 i o).1 (rdF tx L 1 i o).2.1).1) ((rdF tx L 3 (rdF tx L 1 i o).1 (rdF tx L 1 i o).2.1).2.1)).1), .int (optI (skF tx L 43 ((rdF tx L 3 (rdF tx L 1 i o).1 (rdF tx L 1 i o).2.1).1) ((rdF tx L 3 (rdF tx L 1 i o).1 (rdF tx L 1 i o).2.1).2.1)).2), .int kd, .int ((rdF tx L 1 i o).2.2), .int ((rdF tx L 3 ((rdF tx L 1 i o).1) ((rdF tx L 1 i o).2.1)).2.2), .int f3])), (b, .inl (g 0, 100, .inl tx))]) H := hP
        have hD : va_D A ([(a, .inr (2, [.ref b, .int (nI L), .int (nI (skF tx L 43 ((rdF tx L 3 (rdF tx L 1 i o).1 (rdF tx L 1 i o).2.1).1) ((rdF tx L 3 (rdF tx L 1 i o).1 (rdF tx L 1 i o).2.1).2.1)).1), .int (optI (skF tx L 43 ((rdF tx L 3 (rdF tx L 1 i o).1 (rdF tx L 1 i o).2.1).1) ((rdF tx L 3 (rdF tx L 1 i o).1 (rdF tx L 1 i o).2.1).2.1)).2), .int kd, .int ((rdF tx L 1 i o).2.2), .int ((rdF tx L 3 ((rdF tx L 1 i o).1) ((rdF tx L 1 i o).2.1)).2.2), .int f3])), (b, .inl (g 0, 100, .inl tx))]) := hD
        refine lv_aload_n hx hb dX2_readBend_64 rfl (lv_at hl 1 rfl) ?_
        refine lv_iconst (v := 3) hx hb dX2_readBend_65 (by decide) ?_
        refine lv_bipush (v := 120) hx hb dX2_readBend_66 (by decide) ?_
        refine cl_X2_44 (As := [.int 3, .int 120]) (rest := []) (b := a) (wc := [(a, .inr (2, [.ref b, .int (nI L), .int (nI (skF tx L 43 ((rdF tx L 3 (rdF tx L 1 i o).1 (rdF tx L 1 i o).2.1).1) ((rdF tx L 3 (rdF tx L 1 i o).1 (rdF tx L 1 i o).2.1).2.1)).1), .int (optI (skF tx L 43 ((rdF tx L 3 (rdF tx L 1 i o).1 (rdF tx L 1 i o).2.1).1) ((rdF tx L 3 (rdF tx L 1 i o).1 (rdF tx L 1 i o).2.1).2.1)).2), .int kd, .int ((rdF tx L 1 i o).2.2), .int ((rdF tx L 3 ((rdF tx L 1 i o).1) ((rdF tx L 1 i o).2.1)).2.2), .int f3])), (b, .inl (g 0, 100, .inl tx))]) (wr := []) (wn := (fun _ => [(a, .inr (2, [.ref b, .int (nI L), .int (nI (nmF tx L 3 120 ((skF tx L 43 (rdF tx L 3 (rdF tx L 1 i o).1 (rdF tx L 1 i o).2.1).1 (rdF tx L 3 (rdF tx L 1 i o).1 (rdF tx L 1 i o).2.1).2.1).1) ((skF tx L 43 (rdF tx L 3 (rdF tx L 1 i o).1 (rdF tx L 1 i o).2.1).1 (rdF tx L 3 (rdF tx L 1 i o).1 (rdF tx L 1 i o).2.1).2.1).2)).1), .int (optI (nmF tx L 3 120 ((skF tx L 43 (rdF tx L 3 (rdF tx L 1 i o).1 (rdF tx L 1 i o).2.1).1 (rdF tx L 3 (rdF tx L 1 i o).1 (rdF tx L 1 i o).2.1).2.1).1) ((skF tx L 43 (rdF tx L 3 (rdF tx L 1 i o).1 (rdF tx L 1 i o).2.1).1 (rdF tx L 3 (rdF tx L 1 i o).1 (rdF tx L 1 i o).2.1).2.1).2)).2.1), .int kd, .int ((rdF tx L 1 i o).2.2), .int ((rdF tx L 3 ((rdF tx L 1 i o).1) ((rdF tx L 1 i o).2.1)).2.2), .int f3])), (b, .inl (g 0, 100, .inl tx))])) (isC := [0, 1]) (isR := []) (isP := [0, 1]) E hS hA hP hD ⟨rfl, rfl, rfl, rfl, by decide, fun _ => rfl, rfl⟩ (CX2_readNumber l D g _ a b L ((skF tx L 43 (rdF tx L 3 (rdF tx L 1 i o).1 (rdF tx L 1 i o).2.1).1 (rdF tx L 3 (rdF tx L 1 i o).1 (rdF tx L 1 i o).2.1).2.1).1) ((skF tx L 43 (rdF tx L 3 (rdF tx L 1 i o).1 (rdF tx L 1 i o).2.1).1 (rdF tx L 3 (rdF tx L 1 i o).1 (rdF tx L 1 i o).2.1).2.1).2) kd ((rdF tx L 1 i o).2.2) ((rdF tx L 3 ((rdF tx L 1 i o).1) ((rdF tx L 1 i o).2.1)).2.2) f3 tx 3 120 (by first | assumption | omega) (by repeat' (first | assumption | omega | apply nmF_le | apply skF_le | apply rdF_le | apply bdF_le)) (by repeat' (first | assumption | omega | (intro q h; cases h; done) | apply nmF_er | apply skF_er | apply rdF_er | apply bdF_er | apply flF_le | apply nmF_le | apply skF_le | apply rdF_le | apply bdF_le)) (by decide)) ⟨Nat.le_of_ble_eq_true rfl, Nat.le_of_ble_eq_true rfl⟩ rfl rfl 0 rfl rfl hl.1 rfl (Nat.le_of_ble_eq_true rfl) ⟨Nat.le_of_ble_eq_true rfl, Nat.le_of_ble_eq_true rfl⟩ dX2_readBend_68 (fun r u H locs hw hP hD hS => ?_)
        have hP : va_P D vwCl ([(a, .inr (2, [.ref b, .int (nI L), .int (nI (nmF tx L 3 120 ((skF tx L 43 (rdF tx L 3 (rdF tx L 1 i o).1 (rdF tx L 1 i o).2.1).1 (rdF tx L 3 (rdF tx L 1 i o).1 (rdF tx L 1 i o).2.1).2.1).1) ((skF tx L 43 (rdF tx L 3 (rdF tx L 1 i o).1 (rdF tx L 1 i o).2.1).1 (rdF tx L 3 (rdF tx L 1 i o).1 (rdF tx L 1 i o).2.1).2.1).2)).1), .int (optI (nmF tx L 3 120 ((skF tx L 43 (rdF tx L 3 (rdF tx L 1 i o).1 (rdF tx L 1 i o).2.1).1 (rdF tx L 3 (rdF tx L 1 i o).1 (rdF tx L 1 i o).2.1).2.1).1) ((skF tx L 43 (rdF tx L 3 (rdF tx L 1 i o).1 (rdF tx L 1 i o).2.1).1 (rdF tx L 3 (rdF tx L 1 i o).1 (rdF tx L 1 i o).2.1).2.1).2)).2.1), .int kd, .int ((rdF tx L 1 i o).2.2), .int ((rdF tx L 3 ((rdF tx L 1 i o).1) ((rdF tx L 1 i o).2.1)).2.2), .int f3])), (b, .inl (g 0, 100, .inl tx))]) H := hP
        have hD : va_D A ([(a, .inr (2, [.ref b, .int (nI L), .int (nI (nmF tx L 3 120 ((skF tx L 43 (rdF tx L 3 (rdF tx L 1 i o).1 (rdF tx L 1 i o).2.1).1 (rdF tx L 3 (rdF tx L 1 i o).1 (rdF tx L 1 i o).2.1).2.1).1) ((skF tx L 43 (rdF tx L 3 (rdF tx L 1 i o).1 (rdF tx L 1 i o).2.1).1 (rdF tx L 3 (rdF tx L 1 i o).1 (rdF tx L 1 i o).2.1).2.1).2)).1), .int (optI (nmF tx L 3 120 ((skF tx L 43 (rdF tx L 3 (rdF tx L 1 i o).1 (rdF tx L 1 i o).2.1).1 (rdF tx L 3 (rdF tx L 1 i o).1 (rdF tx L 1 i o).2.1).2.1).1) ((skF tx L 43 (rdF tx L 3 (rdF tx L 1 i o).1 (rdF tx L 1 i o).2.1).1 (rdF tx L 3 (rdF tx L 1 i o).1 (rdF tx L 1 i o).2.1).2.1).2)).2.1), .int kd, .int ((rdF tx L 1 i o).2.2), .int ((rdF tx L 3 ((rdF tx L 1 i o).1) ((rdF tx L 1 i o).2.1)).2.2), .int f3])), (b, .inl (g 0, 100, .inl tx))]) := hD
        subst hw
        refine lv_istore_n (lv' := [(2, .int ((nmF tx L 3 120 ((skF tx L 43 (rdF tx L 3 (rdF tx L 1 i o).1 (rdF tx L 1 i o).2.1).1 (rdF tx L 3 (rdF tx L 1 i o).1 (rdF tx L 1 i o).2.1).2.1).1) ((skF tx L 43 (rdF tx L 3 (rdF tx L 1 i o).1 (rdF tx L 1 i o).2.1).1 (rdF tx L 3 (rdF tx L 1 i o).1 (rdF tx L 1 i o).2.1).2.1).2)).2.2)), (1, .int 0), (0, .ref a)]) hx hb dX2_readBend_71 rfl hl (by decide) rfl (fun ls hl => ?_)
        refine lv_aload_n hx hb dX2_readBend_72 rfl (lv_at hl 2 rfl) ?_
        refine lv_iload_n hx hb dX2_readBend_73 rfl (lv_at hl 1 rfl) ?_
        refine lv_if_eq (tgt := 82) hx hb dX2_readBend_74 (by decide) (fun c_74 => ?_) (fun c_74 => ?_)
        · skip
          refine lv_iload_n hx hb dX2_readBend_82 rfl (lv_at hl 0 rfl) ?_
          refine gp_X2_34 E hP hD hS 0 rfl rfl rfl (Nat.le_of_ble_eq_true rfl) dX2_readBend_83 (fun H locs hP hD hS => ?_)
          have hP : va_P D vwCl ([(a, .inr (2, [.ref b, .int (nI L), .int (nI (nmF tx L 3 120 ((skF tx L 43 (rdF tx L 3 (rdF tx L 1 i o).1 (rdF tx L 1 i o).2.1).1 (rdF tx L 3 (rdF tx L 1 i o).1 (rdF tx L 1 i o).2.1).2.1).1) ((skF tx L 43 (rdF tx L 3 (rdF tx L 1 i o).1 (rdF tx L 1 i o).2.1).1 (rdF tx L 3 (rdF tx L 1 i o).1 (rdF tx L 1 i o).2.1).2.1).2)).1), .int (optI (nmF tx L 3 120 ((skF tx L 43 (rdF tx L 3 (rdF tx L 1 i o).1 (rdF tx L 1 i o).2.1).1 (rdF tx L 3 (rdF tx L 1 i o).1 (rdF tx L 1 i o).2.1).2.1).1) ((skF tx L 43 (rdF tx L 3 (rdF tx L 1 i o).1 (rdF tx L 1 i o).2.1).1 (rdF tx L 3 (rdF tx L 1 i o).1 (rdF tx L 1 i o).2.1).2.1).2)).2.1), .int kd, .int ((rdF tx L 1 i o).2.2), .int ((rdF tx L 3 ((rdF tx L 1 i o).1) ((rdF tx L 1 i o).2.1)).2.2), .int ((nmF tx L 3 120 ((skF tx L 43 (rdF tx L 3 (rdF tx L 1 i o).1 (rdF tx L 1 i o).2.1).1 (rdF tx L 3 (rdF tx L 1 i o).1 (rdF tx L 1 i o).2.1).2.1).1) ((skF tx L 43 (rdF tx L 3 (rdF tx L 1 i o).1 (rdF tx L 1 i o).2.1).1 (rdF tx L 3 (rdF tx L 1 i o).1 (rdF tx L 1 i o).2.1).2.1).2)).2.2)])), (b, .inl (g 0, 100, .inl tx))]) H := hP
          have hD : va_D A ([(a, .inr (2, [.ref b, .int (nI L), .int (nI (nmF tx L 3 120 ((skF tx L 43 (rdF tx L 3 (rdF tx L 1 i o).1 (rdF tx L 1 i o).2.1).1 (rdF tx L 3 (rdF tx L 1 i o).1 (rdF tx L 1 i o).2.1).2.1).1) ((skF tx L 43 (rdF tx L 3 (rdF tx L 1 i o).1 (rdF tx L 1 i o).2.1).1 (rdF tx L 3 (rdF tx L 1 i o).1 (rdF tx L 1 i o).2.1).2.1).2)).1), .int (optI (nmF tx L 3 120 ((skF tx L 43 (rdF tx L 3 (rdF tx L 1 i o).1 (rdF tx L 1 i o).2.1).1 (rdF tx L 3 (rdF tx L 1 i o).1 (rdF tx L 1 i o).2.1).2.1).1) ((skF tx L 43 (rdF tx L 3 (rdF tx L 1 i o).1 (rdF tx L 1 i o).2.1).1 (rdF tx L 3 (rdF tx L 1 i o).1 (rdF tx L 1 i o).2.1).2.1).2)).2.1), .int kd, .int ((rdF tx L 1 i o).2.2), .int ((rdF tx L 3 ((rdF tx L 1 i o).1) ((rdF tx L 1 i o).2.1)).2.2), .int ((nmF tx L 3 120 ((skF tx L 43 (rdF tx L 3 (rdF tx L 1 i o).1 (rdF tx L 1 i o).2.1).1 (rdF tx L 3 (rdF tx L 1 i o).1 (rdF tx L 1 i o).2.1).2.1).1) ((skF tx L 43 (rdF tx L 3 (rdF tx L 1 i o).1 (rdF tx L 1 i o).2.1).1 (rdF tx L 3 (rdF tx L 1 i o).1 (rdF tx L 1 i o).2.1).2.1).2)).2.2)])), (b, .inl (g 0, 100, .inl tx))]) := hD
          exact g_vret hQ E M rfl hS hP hD ((nmF tx L 3 120 ((skF tx L 43 (rdF tx L 3 (rdF tx L 1 i o).1 (rdF tx L 1 i o).2.1).1 (rdF tx L 3 (rdF tx L 1 i o).1 (rdF tx L 1 i o).2.1).2.1).1) ((skF tx L 43 (rdF tx L 3 (rdF tx L 1 i o).1 (rdF tx L 1 i o).2.1).1 (rdF tx L 3 (rdF tx L 1 i o).1 (rdF tx L 1 i o).2.1).2.1).2)).1, (nmF tx L 3 120 ((skF tx L 43 (rdF tx L 3 (rdF tx L 1 i o).1 (rdF tx L 1 i o).2.1).1 (rdF tx L 3 (rdF tx L 1 i o).1 (rdF tx L 1 i o).2.1).2.1).1) ((skF tx L 43 (rdF tx L 3 (rdF tx L 1 i o).1 (rdF tx L 1 i o).2.1).1 (rdF tx L 3 (rdF tx L 1 i o).1 (rdF tx L 1 i o).2.1).2.1).2)).2.1, ((rdF tx L 1 i o).2.2), ((rdF tx L 3 ((rdF tx L 1 i o).1) ((rdF tx L 1 i o).2.1)).2.2), ((nmF tx L 3 120 ((skF tx L 43 (rdF tx L 3 (rdF tx L 1 i o).1 (rdF tx L 1 i o).2.1).1 (rdF tx L 3 (rdF tx L 1 i o).1 (rdF tx L 1 i o).2.1).2.1).1) ((skF tx L 43 (rdF tx L 3 (rdF tx L 1 i o).1 (rdF tx L 1 i o).2.1).1 (rdF tx L 3 (rdF tx L 1 i o).1 (rdF tx L 1 i o).2.1).2.1).2)).2.2)) rfl (by unfold bdF; dsimp only; rw [if_neg (show ¬ (_ ∧ _) from fun z => c_40 z.2), if_neg (show ¬ (_ ∧ _) from fun z => c_40 z.2)]) dX2_readBend_86
        · exact absurd c_74 (by decide)
      · exact absurd c_51 (by decide)
    · skip
      refine lv_iconst (v := 1) hx hb dX2_readBend_43 (by decide) ?_
      refine lv_goto (tgt := 48) hx hb dX2_readBend_44 (by decide) ?_
      refine lv_istore_n (lv' := [(1, .int 1), (0, .ref a)]) hx hb dX2_readBend_48 rfl hl (by decide) rfl (fun ls hl => ?_)
      refine lv_aload_n hx hb dX2_readBend_49 rfl (lv_at hl 1 rfl) ?_
      refine lv_iload_n hx hb dX2_readBend_50 rfl (lv_at hl 0 rfl) ?_
      refine lv_if_eq (tgt := 59) hx hb dX2_readBend_51 (by decide) (fun c_51 => ?_) (fun c_51 => ?_)
      · exact absurd c_51 (by decide)
      · skip
        refine lv_bipush (v := 45) hx hb dX2_readBend_54 (by decide) ?_
        refine lv_goto (tgt := 61) hx hb dX2_readBend_56 (by decide) ?_
        refine cl_X2_48 (As := [.int 45]) (rest := []) (b := a) (wc := [(a, .inr (2, [.ref b, .int (nI L), .int (nI (rdF tx L 3 ((rdF tx L 1 i o).1) ((rdF tx L 1 i o).2.1)).1), .int (optI (rdF tx L 3 ((rdF tx L 1 i o).1) ((rdF tx L 1 i o).2.1)).2.1), .int kd, .int ((rdF tx L 1 i o).2.2), .int ((rdF tx L 3 ((rdF tx L 1 i o).1) ((rdF tx L 1 i o).2.1)).2.2), .int f3])), (b, .inl (g 0, 100, .inl tx))]) (wr := []) (wn := (fun _ => [(a, .inr (2, [.ref b, .int (nI L), .int (nI (skF tx L 45 ((rdF tx L 3 (rdF tx L 1 i o).1 (rdF tx L 1 i o).2.1).1) ((rdF tx L 3 (rdF tx L 1 i o).1 (rdF tx L 1 i o).2.1).2.1)).1), .int (optI (skF tx L 45 ((rdF tx L 3 (rdF tx L 1 i o).1 (rdF tx L 1 i o).2.1).1) ((rdF tx L 3 (rdF tx L 1 i o).1 (rdF tx L 1 i o).2.1).2.1)).2), .int kd, .int ((rdF tx L 1 i o).2.2), .int ((rdF tx L 3 ((rdF tx L 1 i o).1) ((rdF tx L 1 i o).2.1)).2.2), .int f3])), (b, .inl (g 0, 100, .inl tx))])) (isC := [0, 1]) (isR := []) (isP := [0, 1]) E hS hA hP hD ⟨rfl, rfl, rfl, rfl, by decide, fun _ => rfl, rfl⟩ (CX2_skip l D g _ a b L ((rdF tx L 3 (rdF tx L 1 i o).1 (rdF tx L 1 i o).2.1).1) ((rdF tx L 3 (rdF tx L 1 i o).1 (rdF tx L 1 i o).2.1).2.1) kd ((rdF tx L 1 i o).2.2) ((rdF tx L 3 ((rdF tx L 1 i o).1) ((rdF tx L 1 i o).2.1)).2.2) f3 tx 45 (by first | assumption | omega) (by repeat' (first | assumption | omega | apply nmF_le | apply skF_le | apply rdF_le | apply bdF_le)) (by repeat' (first | assumption | omega | (intro q h; cases h; done) | apply nmF_er | apply skF_er | apply rdF_er | apply bdF_er | apply flF_le | apply nmF_le | apply skF_le | apply rdF_le | apply bdF_le))) ⟨Nat.le_of_ble_eq_true rfl, Nat.le_of_ble_eq_true rfl⟩ rfl rfl 0 rfl rfl hl.1 rfl (Nat.le_of_ble_eq_true rfl) ⟨Nat.le_of_ble_eq_true rfl, Nat.le_of_ble_eq_true rfl⟩ dX2_readBend_61 (fun u H locs hw hP hD hS => ?_)
        have hP : va_P D vwCl ([(a, .inr (2, [.ref b, .int (nI L), .int (nI (skF tx L 45 ((rdF tx L 3 (rdF tx L 1 i o).1 (rdF tx L 1 i o).2.1).1) ((rdF tx L 3 (rdF tx L 1 i o).1 (rdF tx L 1 i o).2.1).2.1)).1), .int (optI (skF tx L 45 ((rdF tx L 3 (rdF tx L 1 i o).1 (rdF tx L 1 i o).2.1).1) ((rdF tx L 3 (rdF tx L 1 i o).1 (rdF tx L 1 i o).2.1).2.1)).2), .int kd, .int ((rdF tx L 1 i o).2.2), .int ((rdF tx L 3 ((rdF tx L 1 i o).1) ((rdF tx L 1 i o).2.1)).2.2), .int f3])), (b, .inl (g 0, 100, .inl tx))]) H := hP
        have hD : va_D A ([(a, .inr (2, [.ref b, .int (nI L), .int (nI (skF tx L 45 ((rdF tx L 3 (rdF tx L 1 i o).1 (rdF tx L 1 i o).2.1).1) ((rdF tx L 3 (rdF tx L 1 i o).1 (rdF tx L 1 i o).2.1).2.1)).1), .int (optI (skF tx L 45 ((rdF tx L 3 (rdF tx L 1 i o).1 (rdF tx L 1 i o).2.1).1) ((rdF tx L 3 (rdF tx L 1 i o).1 (rdF tx L 1 i o).2.1).2.1)).2), .int kd, .int ((rdF tx L 1 i o).2.2), .int ((rdF tx L 3 ((rdF tx L 1 i o).1) ((rdF tx L 1 i o).2.1)).2.2), .int f3])), (b, .inl (g 0, 100, .inl tx))]) := hD
        refine lv_aload_n hx hb dX2_readBend_64 rfl (lv_at hl 1 rfl) ?_
        refine lv_iconst (v := 3) hx hb dX2_readBend_65 (by decide) ?_
        refine lv_bipush (v := 120) hx hb dX2_readBend_66 (by decide) ?_
        refine cl_X2_44 (As := [.int 3, .int 120]) (rest := []) (b := a) (wc := [(a, .inr (2, [.ref b, .int (nI L), .int (nI (skF tx L 45 ((rdF tx L 3 (rdF tx L 1 i o).1 (rdF tx L 1 i o).2.1).1) ((rdF tx L 3 (rdF tx L 1 i o).1 (rdF tx L 1 i o).2.1).2.1)).1), .int (optI (skF tx L 45 ((rdF tx L 3 (rdF tx L 1 i o).1 (rdF tx L 1 i o).2.1).1) ((rdF tx L 3 (rdF tx L 1 i o).1 (rdF tx L 1 i o).2.1).2.1)).2), .int kd, .int ((rdF tx L 1 i o).2.2), .int ((rdF tx L 3 ((rdF tx L 1 i o).1) ((rdF tx L 1 i o).2.1)).2.2), .int f3])), (b, .inl (g 0, 100, .inl tx))]) (wr := []) (wn := (fun _ => [(a, .inr (2, [.ref b, .int (nI L), .int (nI (nmF tx L 3 120 ((skF tx L 45 (rdF tx L 3 (rdF tx L 1 i o).1 (rdF tx L 1 i o).2.1).1 (rdF tx L 3 (rdF tx L 1 i o).1 (rdF tx L 1 i o).2.1).2.1).1) ((skF tx L 45 (rdF tx L 3 (rdF tx L 1 i o).1 (rdF tx L 1 i o).2.1).1 (rdF tx L 3 (rdF tx L 1 i o).1 (rdF tx L 1 i o).2.1).2.1).2)).1), .int (optI (nmF tx L 3 120 ((skF tx L 45 (rdF tx L 3 (rdF tx L 1 i o).1 (rdF tx L 1 i o).2.1).1 (rdF tx L 3 (rdF tx L 1 i o).1 (rdF tx L 1 i o).2.1).2.1).1) ((skF tx L 45 (rdF tx L 3 (rdF tx L 1 i o).1 (rdF tx L 1 i o).2.1).1 (rdF tx L 3 (rdF tx L 1 i o).1 (rdF tx L 1 i o).2.1).2.1).2)).2.1), .int kd, .int ((rdF tx L 1 i o).2.2), .int ((rdF tx L 3 ((rdF tx L 1 i o).1) ((rdF tx L 1 i o).2.1)).2.2), .int f3])), (b, .inl (g 0, 100, .inl tx))])) (isC := [0, 1]) (isR := []) (isP := [0, 1]) E hS hA hP hD ⟨rfl, rfl, rfl, rfl, by decide, fun _ => rfl, rfl⟩ (CX2_readNumber l D g _ a b L ((skF tx L 45 (rdF tx L 3 (rdF tx L 1 i o).1 (rdF tx L 1 i o).2.1).1 (rdF tx L 3 (rdF tx L 1 i o).1 (rdF tx L 1 i o).2.1).2.1).1) ((skF tx L 45 (rdF tx L 3 (rdF tx L 1 i o).1 (rdF tx L 1 i o).2.1).1 (rdF tx L 3 (rdF tx L 1 i o).1 (rdF tx L 1 i o).2.1).2.1).2) kd ((rdF tx L 1 i o).2.2) ((rdF tx L 3 ((rdF tx L 1 i o).1) ((rdF tx L 1 i o).2.1)).2.2) f3 tx 3 120 (by first | assumption | omega) (by repeat' (first | assumption | omega | apply nmF_le | apply skF_le | apply rdF_le | apply bdF_le)) (by repeat' (first | assumption | omega | (intro q h; cases h; done) | apply nmF_er | apply skF_er | apply rdF_er | apply bdF_er | apply flF_le | apply nmF_le | apply skF_le | apply rdF_le | apply bdF_le)) (by decide)) ⟨Nat.le_of_ble_eq_true rfl, Nat.le_of_ble_eq_true rfl⟩ rfl rfl 0 rfl rfl hl.1 rfl (Nat.le_of_ble_eq_true rfl) ⟨Nat.le_of_ble_eq_true rfl, Nat.le_of_ble_eq_true rfl⟩ dX2_readBend_68 (fun r u H locs hw hP hD hS => ?_)
        have hP : va_P D vwCl ([(a, .inr (2, [.ref b, .int (nI L), .int (nI (nmF tx L 3 120 ((skF tx L 45 (rdF tx L 3 (rdF tx L 1 i o).1 (rdF tx L 1 i o).2.1).1 (rdF tx L 3 (rdF tx L 1 i o).1 (rdF tx L 1 i o).2.1).2.1).1) ((skF tx L 45 (rdF tx L 3 (rdF tx L 1 i o).1 (rdF tx L 1 i o).2.1).1 (rdF tx L 3 (rdF tx L 1 i o).1 (rdF tx L 1 i o).2.1).2.1).2)).1), .int (optI (nmF tx L 3 120 ((skF tx L 45 (rdF tx L 3 (rdF tx L 1 i o).1 (rdF tx L 1 i o).2.1).1 (rdF tx L 3 (rdF tx L 1 i o).1 (rdF tx L 1 i o).2.1).2.1).1) ((skF tx L 45 (rdF tx L 3 (rdF tx L 1 i o).1 (rdF tx L 1 i o).2.1).1 (rdF tx L 3 (rdF tx L 1 i o).1 (rdF tx L 1 i o).2.1).2.1).2)).2.1), .int kd, .int ((rdF tx L 1 i o).2.2), .int ((rdF tx L 3 ((rdF tx L 1 i o).1) ((rdF tx L 1 i o).2.1)).2.2), .int f3])), (b, .inl (g 0, 100, .inl tx))]) H := hP
        have hD : va_D A ([(a, .inr (2, [.ref b, .int (nI L), .int (nI (nmF tx L 3 120 ((skF tx L 45 (rdF tx L 3 (rdF tx L 1 i o).1 (rdF tx L 1 i o).2.1).1 (rdF tx L 3 (rdF tx L 1 i o).1 (rdF tx L 1 i o).2.1).2.1).1) ((skF tx L 45 (rdF tx L 3 (rdF tx L 1 i o).1 (rdF tx L 1 i o).2.1).1 (rdF tx L 3 (rdF tx L 1 i o).1 (rdF tx L 1 i o).2.1).2.1).2)).1), .int (optI (nmF tx L 3 120 ((skF tx L 45 (rdF tx L 3 (rdF tx L 1 i o).1 (rdF tx L 1 i o).2.1).1 (rdF tx L 3 (rdF tx L 1 i o).1 (rdF tx L 1 i o).2.1).2.1).1) ((skF tx L 45 (rdF tx L 3 (rdF tx L 1 i o).1 (rdF tx L 1 i o).2.1).1 (rdF tx L 3 (rdF tx L 1 i o).1 (rdF tx L 1 i o).2.1).2.1).2)).2.1), .int kd, .int ((rdF tx L 1 i o).2.2), .int ((rdF tx L 3 ((rdF tx L 1 i o).1) ((rdF tx L 1 i o).2.1)).2.2), .int f3])), (b, .inl (g 0, 100, .inl tx))]) := hD
        subst hw
        refine lv_istore_n (lv' := [(2, .int ((nmF tx L 3 120 ((skF tx L 45 (rdF tx L 3 (rdF tx L 1 i o).1 (rdF tx L 1 i o).2.1).1 (rdF tx L 3 (rdF tx L 1 i o).1 (rdF tx L 1 i o).2.1).2.1).1) ((skF tx L 45 (rdF tx L 3 (rdF tx L 1 i o).1 (rdF tx L 1 i o).2.1).1 (rdF tx L 3 (rdF tx L 1 i o).1 (rdF tx L 1 i o).2.1).2.1).2)).2.2)), (1, .int 1), (0, .ref a)]) hx hb dX2_readBend_71 rfl hl (by decide) rfl (fun ls hl => ?_)
        refine lv_aload_n hx hb dX2_readBend_72 rfl (lv_at hl 2 rfl) ?_
        refine lv_iload_n hx hb dX2_readBend_73 rfl (lv_at hl 1 rfl) ?_
        refine lv_if_eq (tgt := 82) hx hb dX2_readBend_74 (by decide) (fun c_74 => ?_) (fun c_74 => ?_)
        · exact absurd c_74 (by decide)
        · skip
          refine lv_iload_n hx hb dX2_readBend_77 rfl (lv_at hl 0 rfl) ?_
          refine lv_ineg hx hb dX2_readBend_78 ?_
          refine lv_goto (tgt := 83) hx hb dX2_readBend_79 (by decide) ?_
          refine gp_X2_34 E hP hD hS 0 rfl rfl rfl (Nat.le_of_ble_eq_true rfl) dX2_readBend_83 (fun H locs hP hD hS => ?_)
          have hP : va_P D vwCl ([(a, .inr (2, [.ref b, .int (nI L), .int (nI (nmF tx L 3 120 ((skF tx L 45 (rdF tx L 3 (rdF tx L 1 i o).1 (rdF tx L 1 i o).2.1).1 (rdF tx L 3 (rdF tx L 1 i o).1 (rdF tx L 1 i o).2.1).2.1).1) ((skF tx L 45 (rdF tx L 3 (rdF tx L 1 i o).1 (rdF tx L 1 i o).2.1).1 (rdF tx L 3 (rdF tx L 1 i o).1 (rdF tx L 1 i o).2.1).2.1).2)).1), .int (optI (nmF tx L 3 120 ((skF tx L 45 (rdF tx L 3 (rdF tx L 1 i o).1 (rdF tx L 1 i o).2.1).1 (rdF tx L 3 (rdF tx L 1 i o).1 (rdF tx L 1 i o).2.1).2.1).1) ((skF tx L 45 (rdF tx L 3 (rdF tx L 1 i o).1 (rdF tx L 1 i o).2.1).1 (rdF tx L 3 (rdF tx L 1 i o).1 (rdF tx L 1 i o).2.1).2.1).2)).2.1), .int kd, .int ((rdF tx L 1 i o).2.2), .int ((rdF tx L 3 ((rdF tx L 1 i o).1) ((rdF tx L 1 i o).2.1)).2.2), .int (-((nmF tx L 3 120 ((skF tx L 45 (rdF tx L 3 (rdF tx L 1 i o).1 (rdF tx L 1 i o).2.1).1 (rdF tx L 3 (rdF tx L 1 i o).1 (rdF tx L 1 i o).2.1).2.1).1) ((skF tx L 45 (rdF tx L 3 (rdF tx L 1 i o).1 (rdF tx L 1 i o).2.1).1 (rdF tx L 3 (rdF tx L 1 i o).1 (rdF tx L 1 i o).2.1).2.1).2)).2.2))])), (b, .inl (g 0, 100, .inl tx))]) H := hP
          have hD : va_D A ([(a, .inr (2, [.ref b, .int (nI L), .int (nI (nmF tx L 3 120 ((skF tx L 45 (rdF tx L 3 (rdF tx L 1 i o).1 (rdF tx L 1 i o).2.1).1 (rdF tx L 3 (rdF tx L 1 i o).1 (rdF tx L 1 i o).2.1).2.1).1) ((skF tx L 45 (rdF tx L 3 (rdF tx L 1 i o).1 (rdF tx L 1 i o).2.1).1 (rdF tx L 3 (rdF tx L 1 i o).1 (rdF tx L 1 i o).2.1).2.1).2)).1), .int (optI (nmF tx L 3 120 ((skF tx L 45 (rdF tx L 3 (rdF tx L 1 i o).1 (rdF tx L 1 i o).2.1).1 (rdF tx L 3 (rdF tx L 1 i o).1 (rdF tx L 1 i o).2.1).2.1).1) ((skF tx L 45 (rdF tx L 3 (rdF tx L 1 i o).1 (rdF tx L 1 i o).2.1).1 (rdF tx L 3 (rdF tx L 1 i o).1 (rdF tx L 1 i o).2.1).2.1).2)).2.1), .int kd, .int ((rdF tx L 1 i o).2.2), .int ((rdF tx L 3 ((rdF tx L 1 i o).1) ((rdF tx L 1 i o).2.1)).2.2), .int (-((nmF tx L 3 120 ((skF tx L 45 (rdF tx L 3 (rdF tx L 1 i o).1 (rdF tx L 1 i o).2.1).1 (rdF tx L 3 (rdF tx L 1 i o).1 (rdF tx L 1 i o).2.1).2.1).1) ((skF tx L 45 (rdF tx L 3 (rdF tx L 1 i o).1 (rdF tx L 1 i o).2.1).1 (rdF tx L 3 (rdF tx L 1 i o).1 (rdF tx L 1 i o).2.1).2.1).2)).2.2))])), (b, .inl (g 0, 100, .inl tx))]) := hD
          exact g_vret hQ E M rfl hS hP hD ((nmF tx L 3 120 ((skF tx L 45 (rdF tx L 3 (rdF tx L 1 i o).1 (rdF tx L 1 i o).2.1).1 (rdF tx L 3 (rdF tx L 1 i o).1 (rdF tx L 1 i o).2.1).2.1).1) ((skF tx L 45 (rdF tx L 3 (rdF tx L 1 i o).1 (rdF tx L 1 i o).2.1).1 (rdF tx L 3 (rdF tx L 1 i o).1 (rdF tx L 1 i o).2.1).2.1).2)).1, (nmF tx L 3 120 ((skF tx L 45 (rdF tx L 3 (rdF tx L 1 i o).1 (rdF tx L 1 i o).2.1).1 (rdF tx L 3 (rdF tx L 1 i o).1 (rdF tx L 1 i o).2.1).2.1).1) ((skF tx L 45 (rdF tx L 3 (rdF tx L 1 i o).1 (rdF tx L 1 i o).2.1).1 (rdF tx L 3 (rdF tx L 1 i o).1 (rdF tx L 1 i o).2.1).2.1).2)).2.1, ((rdF tx L 1 i o).2.2), ((rdF tx L 3 ((rdF tx L 1 i o).1) ((rdF tx L 1 i o).2.1)).2.2), (-((nmF tx L 3 120 ((skF tx L 45 (rdF tx L 3 (rdF tx L 1 i o).1 (rdF tx L 1 i o).2.1).1 (rdF tx L 3 (rdF tx L 1 i o).1 (rdF tx L 1 i o).2.1).2.1).1) ((skF tx L 45 (rdF tx L 3 (rdF tx L 1 i o).1 (rdF tx L 1 i o).2.1).1 (rdF tx L 3 (rdF tx L 1 i o).1 (rdF tx L 1 i o).2.1).2.1).2)).2.2))) rfl (by unfold bdF; dsimp only; rw [if_pos (show _ ∧ _ from ⟨hlt, c_40⟩), if_pos (show _ ∧ _ from ⟨hlt, c_40⟩)]) dX2_readBend_86
abbrev rm_X2_readOrder : Room := { frames := 3, cells := 0, slots := 0, locals := 68 }
set_option maxHeartbeats 600000 in
set_option maxRecDepth 100000 in
theorem CX2_readOrder (l : Launch) (D : va_G) (g : Nat → ClassId) (sz : Nat) (a b L i : Nat) (kd f1 f2 f3 : Int32) (tx : Nat → Int32) (hL : L ≤ 100) (hi : i ≤ L) : Met l yX2_readOrder (Cond.code yX2_readOrder prog_4_method_5_code 1 (some .boolean) :: WA) rm_X2_readOrder (va_Pc [.ref a] (Pre D g ([(a, .inr (2, [.ref b, .int (nI L), .int (nI i), .int (optI none), .int kd, .int f1, .int f2, .int f3])), (b, .inl (g 0, 100, .inl tx))]) sz)) (va_Qi (fun (r : Int32) (u : (Nat × Option Nat × Int32 × Int32 × Int32 × Int32)) => match u with | (i9, o9, k9, a9, b9, c9) => (r = 1 ∧ (i < L ∧ o9 = none ∧ i9 = (roF tx L i).1 ∧ o9 = (roF tx L i).2.1 ∧ k9 = tx i ∧ roK tx L i a9 b9 c9)) ∨ (r = 0 ∧ ((L ≤ i ∧ o9 = none ∧ i9 = i ∧ k9 = kd ∧ a9 = f1 ∧ b9 = f2 ∧ c9 = f3) ∨ (i < L ∧ o9 = (roF tx L i).2.1 ∧ ∃ q, o9 = some q)))) (fun (u : (Nat × Option Nat × Int32 × Int32 × Int32 × Int32)) t => Bp D g (va_A ([(a, .inr (2, [.ref b, .int (nI L), .int (nI i), .int (optI none), .int kd, .int f1, .int f2, .int f3])), (b, .inl (g 0, 100, .inl tx))]) sz) (match u with | (i9, o9, k9, a9, b9, c9) => [(a, .inr (2, [.ref b, .int (nI L), .int (nI i9), .int (optI o9), .int k9, .int a9, .int b9, .int c9])), (b, .inl (g 0, 100, .inl tx))]) t) (va_A ([(a, .inr (2, [.ref b, .int (nI L), .int (nI i), .int (optI none), .int kd, .int f1, .int f2, .int f3])), (b, .inl (g 0, 100, .inl tx))]) sz)) 0 0 (va_A ([(a, .inr (2, [.ref b, .int (nI L), .int (nI i), .int (optI none), .int kd, .int f1, .int f2, .int f3])), (b, .inl (g 0, 100, .inl tx))]) sz) := by
  refine g_met (av := [.ref a]) (QcA := fun A => va_Qi (fun (r : Int32) (u : (Nat × Option Nat × Int32 × Int32 × Int32 × Int32)) => match u with | (i9, o9, k9, a9, b9, c9) => (r = 1 ∧ (i < L ∧ o9 = none ∧ i9 = (roF tx L i).1 ∧ o9 = (roF tx L i).2.1 ∧ k9 = tx i ∧ roK tx L i a9 b9 c9)) ∨ (r = 0 ∧ ((L ≤ i ∧ o9 = none ∧ i9 = i ∧ k9 = kd ∧ a9 = f1 ∧ b9 = f2 ∧ c9 = f3) ∨ (i < L ∧ o9 = (roF tx L i).2.1 ∧ ∃ q, o9 = some q)))) (fun (u : (Nat × Option Nat × Int32 × Int32 × Int32 × Int32)) t => Bp D g A (match u with | (i9, o9, k9, a9, b9, c9) => [(a, .inr (2, [.ref b, .int (nI L), .int (nI i9), .int (optI o9), .int k9, .int a9, .int b9, .int c9])), (b, .inl (g 0, 100, .inl tx))]) t) A) rfl (Nat.le_of_ble_eq_true rfl) ?_
  intro p e s m below meth c A Q ls E M hP hD hS hA hQ hl
  have hx := E.1.1
  have hb := E.1.2.1
  have hl : lv_has ls 1 [(0, .ref a)] := hl
  refine lv_aload_n hx hb dX2_readOrder_0 rfl (lv_at hl 0 rfl) ?_
  refine gf_X2_19 E hP 0 rfl rfl dX2_readOrder_1 ?_
  refine lv_aload_n hx hb dX2_readOrder_4 rfl (lv_at hl 0 rfl) ?_
  refine gf_X2_15 E hP 0 rfl rfl dX2_readOrder_5 ?_
  refine lv_icmp_lt (tgt := 13) hx hb dX2_readOrder_8 (by decide) (fun c_8 => ?_) (fun c_8 => ?_)
  · skip
    have hlt : i < L := nI_lt_of c_8 (by omega) (by omega)
    refine lv_aload_n hx hb dX2_readOrder_13 rfl (lv_at hl 0 rfl) ?_
    refine lv_aload_n hx hb dX2_readOrder_14 rfl (lv_at hl 0 rfl) ?_
    refine gf_X2_9 E hP 0 rfl rfl dX2_readOrder_15 ?_
    refine lv_aload_n hx hb dX2_readOrder_18 rfl (lv_at hl 0 rfl) ?_
    refine gf_X2_19 E hP 0 rfl rfl dX2_readOrder_19 ?_
    refine g_iald E hP 1 rfl i rfl (by omega) (Nat.le_of_ble_eq_true rfl) dX2_readOrder_22 ?_
    refine gp_X2_25 E hP hD hS 0 rfl rfl rfl (Nat.le_of_ble_eq_true rfl) dX2_readOrder_23 (fun H locs hP hD hS => ?_)
    have hP : va_P D vwCl ([(a, .inr (2, [.ref b, .int (nI L), .int (nI i), .int (optI none), .int (tx i), .int f1, .int f2, .int f3])), (b, .inl (g 0, 100, .inl tx))]) H := hP
    have hD : va_D A ([(a, .inr (2, [.ref b, .int (nI L), .int (nI i), .int (optI none), .int (tx i), .int f1, .int f2, .int f3])), (b, .inl (g 0, 100, .inl tx))]) := hD
    refine lv_aload_n hx hb dX2_readOrder_26 rfl (lv_at hl 0 rfl) ?_
    refine gf_X2_25 E hP 0 rfl rfl dX2_readOrder_27 ?_
    by_cases w_30_97 : (tx i) = 97
    · refine lv_lookup (off := 85) (tgt := 115) hx hb dX2_readOrder_30 (by decide) (by rw [w_30_97]; rfl) (by decide) ?_
      refine lv_aload_n hx hb dX2_readOrder_115 rfl (lv_at hl 0 rfl) ?_
      refine lv_dup hx hb dX2_readOrder_116 rfl ?_
      refine gf_X2_19 E hP 0 rfl rfl dX2_readOrder_117 ?_
      refine lv_iconst (v := 1) hx hb dX2_readOrder_120 (by decide) ?_
      refine lv_iadd hx hb dX2_readOrder_121 ?_
      refine g_top (w := .int (nI (i + 1))) (congrArg Value.int (ix_add rfl rfl)) ?_
      refine gp_X2_19 E hP hD hS 0 rfl rfl rfl (Nat.le_of_ble_eq_true rfl) dX2_readOrder_122 (fun H locs hP hD hS => ?_)
      have hP : va_P D vwCl ([(a, .inr (2, [.ref b, .int (nI L), .int (nI (i + 1)), .int (optI none), .int (tx i), .int f1, .int f2, .int f3])), (b, .inl (g 0, 100, .inl tx))]) H := hP
      have hD : va_D A ([(a, .inr (2, [.ref b, .int (nI L), .int (nI (i + 1)), .int (optI none), .int (tx i), .int f1, .int f2, .int f3])), (b, .inl (g 0, 100, .inl tx))]) := hD
      refine lv_aload_n hx hb dX2_readOrder_125 rfl (lv_at hl 0 rfl) ?_
      refine lv_aload_n hx hb dX2_readOrder_126 rfl (lv_at hl 0 rfl) ?_
      refine lv_iconst (v := 2) hx hb dX2_readOrder_127 (by decide) ?_
      refine lv_bipush (v := 99) hx hb dX2_readOrder_128 (by decide) ?_
      refine cl_X2_44 (As := [.int 2, .int 99]) (rest := [.ref a]) (b := a) (wc := [(a, .inr (2, [.ref b, .int (nI L), .int (nI (i + 1)), .int (optI none), .int (tx i), .int f1, .int f2, .int f3])), (b, .inl (g 0, 100, .inl tx))]) (wr := []) (wn := (fun _ => [(a, .inr (2, [.ref b, .int (nI L), .int (nI (nmF tx L 2 99 (i + 1) none).1), .int (optI (nmF tx L 2 99 (i + 1) none).2.1), .int (tx i), .int f1, .int f2, .int f3])), (b, .inl (g 0, 100, .inl tx))])) (isC := [0, 1]) (isR := []) (isP := [0, 1]) E hS hA hP hD ⟨rfl, rfl, rfl, rfl, by decide, fun _ => rfl, rfl⟩ (CX2_readNumber l D g _ a b L (i + 1) none (tx i) f1 f2 f3 tx 2 99 (by first | assumption | omega) (by repeat' (first | assumption | omega | apply nmF_le | apply skF_le | apply rdF_le | apply bdF_le)) (by repeat' (first | assumption | omega | (intro q h; cases h; done) | apply nmF_er | apply skF_er | apply rdF_er | apply bdF_er | apply flF_le | apply nmF_le | apply skF_le | apply rdF_le | apply bdF_le)) (by decide)) ⟨Nat.le_of_ble_eq_true rfl, Nat.le_of_ble_eq_true rfl⟩ rfl rfl 0 rfl rfl hl.1 rfl (Nat.le_of_ble_eq_true rfl) ⟨Nat.le_of_ble_eq_true rfl, Nat.le_of_ble_eq_true rfl⟩ dX2_readOrder_130 (fun r u H locs hw hP hD hS => ?_)
      have hP : va_P D vwCl ([(a, .inr (2, [.ref b, .int (nI L), .int (nI (nmF tx L 2 99 (i + 1) none).1), .int (optI (nmF tx L 2 99 (i + 1) none).2.1), .int (tx i), .int f1, .int f2, .int f3])), (b, .inl (g 0, 100, .inl tx))]) H := hP
      have hD : va_D A ([(a, .inr (2, [.ref b, .int (nI L), .int (nI (nmF tx L 2 99 (i + 1) none).1), .int (optI (nmF tx L 2 99 (i + 1) none).2.1), .int (tx i), .int f1, .int f2, .int f3])), (b, .inl (g 0, 100, .inl tx))]) := hD
      subst hw
      refine gp_X2_28 E hP hD hS 0 rfl rfl rfl (Nat.le_of_ble_eq_true rfl) dX2_readOrder_133 (fun H locs hP hD hS => ?_)
      have hP : va_P D vwCl ([(a, .inr (2, [.ref b, .int (nI L), .int (nI (nmF tx L 2 99 (i + 1) none).1), .int (optI (nmF tx L 2 99 (i + 1) none).2.1), .int (tx i), .int ((nmF tx L 2 99 (i + 1) none).2.2), .int f2, .int f3])), (b, .inl (g 0, 100, .inl tx))]) H := hP
      have hD : va_D A ([(a, .inr (2, [.ref b, .int (nI L), .int (nI (nmF tx L 2 99 (i + 1) none).1), .int (optI (nmF tx L 2 99 (i + 1) none).2.1), .int (tx i), .int ((nmF tx L 2 99 (i + 1) none).2.2), .int f2, .int f3])), (b, .inl (g 0, 100, .inl tx))]) := hD
      refine lv_goto (tgt := 177) hx hb dX2_readOrder_136 (by decide) ?_
      refine lv_aload_n hx hb dX2_readOrder_177 rfl (lv_at hl 0 rfl) ?_
      refine lv_bipush (v := 59) hx hb dX2_readOrder_178 (by decide) ?_
      refine cl_X2_48 (As := [.int 59]) (rest := []) (b := a) (wc := [(a, .inr (2, [.ref b, .int (nI L), .int (nI (nmF tx L 2 99 (i + 1) none).1), .int (optI (nmF tx L 2 99 (i + 1) none).2.1), .int (tx i), .int ((nmF tx L 2 99 (i + 1) none).2.2), .int f2, .int f3])), (b, .inl (g 0, 100, .inl tx))]) (wr := []) (wn := (fun _ => [(a, .inr (2, [.ref b, .int (nI L), .int (nI (skF tx L 59 ((nmF tx L 2 99 (i + 1) none).1) ((nmF tx L 2 99 (i + 1) none).2.1)).1), .int (optI (skF tx L 59 ((nmF tx L 2 99 (i + 1) none).1) ((nmF tx L 2 99 (i + 1) none).2.1)).2), .int (tx i), .int ((nmF tx L 2 99 (i + 1) none).2.2), .int f2, .int f3])), (b, .inl (g 0, 100, .inl tx))])) (isC := [0, 1]) (isR := []) (isP := [0, 1]) E hS hA hP hD ⟨rfl, rfl, rfl, rfl, by decide, fun _ => rfl, rfl⟩ (CX2_skip l D g _ a b L ((nmF tx L 2 99 (i + 1) none).1) ((nmF tx L 2 99 (i + 1) none).2.1) (tx i) ((nmF tx L 2 99 (i + 1) none).2.2) f2 f3 tx 59 (by first | assumption | omega) (by repeat' (first | assumption | omega | apply nmF_le | apply skF_le | apply rdF_le | apply bdF_le)) (by repeat' (first | assumption | omega | (intro q h; cases h; done) | apply nmF_er | apply skF_er | apply rdF_er | apply bdF_er | apply flF_le | apply nmF_le | apply skF_le | apply rdF_le | apply bdF_le))) ⟨Nat.le_of_ble_eq_true rfl, Nat.le_of_ble_eq_true rfl⟩ rfl rfl 0 rfl rfl hl.1 rfl (Nat.le_of_ble_eq_true rfl) ⟨Nat.le_of_ble_eq_true rfl, Nat.le_of_ble_eq_true rfl⟩ dX2_readOrder_180 (fun u H locs hw hP hD hS => ?_)
      have hP : va_P D vwCl ([(a, .inr (2, [.ref b, .int (nI L), .int (nI (skF tx L 59 ((nmF tx L 2 99 (i + 1) none).1) ((nmF tx L 2 99 (i + 1) none).2.1)).1), .int (optI (skF tx L 59 ((nmF tx L 2 99 (i + 1) none).1) ((nmF tx L 2 99 (i + 1) none).2.1)).2), .int (tx i), .int ((nmF tx L 2 99 (i + 1) none).2.2), .int f2, .int f3])), (b, .inl (g 0, 100, .inl tx))]) H := hP
      have hD : va_D A ([(a, .inr (2, [.ref b, .int (nI L), .int (nI (skF tx L 59 ((nmF tx L 2 99 (i + 1) none).1) ((nmF tx L 2 99 (i + 1) none).2.1)).1), .int (optI (skF tx L 59 ((nmF tx L 2 99 (i + 1) none).1) ((nmF tx L 2 99 (i + 1) none).2.1)).2), .int (tx i), .int ((nmF tx L 2 99 (i + 1) none).2.2), .int f2, .int f3])), (b, .inl (g 0, 100, .inl tx))]) := hD
      refine lv_aload_n hx hb dX2_readOrder_183 rfl (lv_at hl 0 rfl) ?_
      refine gf_X2_22 E hP 0 rfl rfl dX2_readOrder_184 ?_
      have hro := (roF_a (L := L) w_30_97)
      refine lv_iconst (v := (-1)) hx hb dX2_readOrder_187 (by decide) ?_
      refine lv_icmp_ne (tgt := 195) hx hb dX2_readOrder_188 (by decide) (fun c_188 => ?_) (fun c_188 => ?_)
      · skip
        refine lv_iconst (v := 0) hx hb dX2_readOrder_195 (by decide) ?_
        exact g_zret hQ E M rfl (Or.inl rfl) hS hP hD ((skF tx L 59 ((nmF tx L 2 99 (i + 1) none).1) ((nmF tx L 2 99 (i + 1) none).2.1)).1, (skF tx L 59 ((nmF tx L 2 99 (i + 1) none).1) ((nmF tx L 2 99 (i + 1) none).2.1)).2, (tx i), ((nmF tx L 2 99 (i + 1) none).2.2), f2, f3) rfl (Or.inr ⟨rfl, Or.inr ⟨hlt, (by rw [hro]), optI_some c_188⟩⟩) dX2_readOrder_196
      · skip
        refine lv_iconst (v := 1) hx hb dX2_readOrder_191 (by decide) ?_
        refine lv_goto (tgt := 196) hx hb dX2_readOrder_192 (by decide) ?_
        exact g_zret hQ E M rfl (Or.inr rfl) hS hP hD ((skF tx L 59 ((nmF tx L 2 99 (i + 1) none).1) ((nmF tx L 2 99 (i + 1) none).2.1)).1, (skF tx L 59 ((nmF tx L 2 99 (i + 1) none).1) ((nmF tx L 2 99 (i + 1) none).2.1)).2, (tx i), ((nmF tx L 2 99 (i + 1) none).2.2), f2, f3) rfl (Or.inl ⟨rfl, ⟨hlt, (optN (by repeat' (first | assumption | omega | (intro q h; cases h; done) | apply nmF_er | apply skF_er | apply rdF_er | apply bdF_er | apply flF_le | apply nmF_le | apply skF_le | apply rdF_le | apply bdF_le)) c_188), by rw [hro], by rw [hro], rfl, (roK_a w_30_97 (by rw [hro]))⟩⟩) dX2_readOrder_196
    by_cases w_30_98 : (tx i) = 98
    · refine lv_lookup (off := 122) (tgt := 152) hx hb dX2_readOrder_30 (by decide) (by rw [w_30_98]; rfl) (by decide) ?_
      refine lv_aload_n hx hb dX2_readOrder_152 rfl (lv_at hl 0 rfl) ?_
      refine lv_dup hx hb dX2_readOrder_153 rfl ?_
      refine gf_X2_19 E hP 0 rfl rfl dX2_readOrder_154 ?_
      refine lv_iconst (v := 1) hx hb dX2_readOrder_157 (by decide) ?_
      refine lv_iadd hx hb dX2_readOrder_158 ?_
      refine g_top (w := .int (nI (i + 1))) (congrArg Value.int (ix_add rfl rfl)) ?_
      refine gp_X2_19 E hP hD hS 0 rfl rfl rfl (Nat.le_of_ble_eq_true rfl) dX2_readOrder_159 (fun H locs hP hD hS => ?_)
      have hP : va_P D vwCl ([(a, .inr (2, [.ref b, .int (nI L), .int (nI (i + 1)), .int (optI none), .int (tx i), .int f1, .int f2, .int f3])), (b, .inl (g 0, 100, .inl tx))]) H := hP
      have hD : va_D A ([(a, .inr (2, [.ref b, .int (nI L), .int (nI (i + 1)), .int (optI none), .int (tx i), .int f1, .int f2, .int f3])), (b, .inl (g 0, 100, .inl tx))]) := hD
      refine lv_aload_n hx hb dX2_readOrder_162 rfl (lv_at hl 0 rfl) ?_
      refine cl_X2_52 (As := []) (rest := []) (b := a) (wc := [(a, .inr (2, [.ref b, .int (nI L), .int (nI (i + 1)), .int (optI none), .int (tx i), .int f1, .int f2, .int f3])), (b, .inl (g 0, 100, .inl tx))]) (wr := []) (wn := (fun (u : (Nat × Option Nat × Int32 × Int32 × Int32)) => match u with | (i9_1, o9_2, a9_3, b9_4, c9_5) => [(a, .inr (2, [.ref b, .int (nI L), .int (nI i9_1), .int (optI o9_2), .int (tx i), .int a9_3, .int b9_4, .int c9_5])), (b, .inl (g 0, 100, .inl tx))])) (isC := [0, 1]) (isR := []) (isP := [0, 1]) E hS hA hP hD ⟨rfl, rfl, rfl, rfl, by decide, fun _ => rfl, rfl⟩ (CX2_readBend l D g _ a b L (i + 1) none (tx i) f1 f2 f3 tx (by first | assumption | omega) (by repeat' (first | assumption | omega | apply nmF_le | apply skF_le | apply rdF_le | apply bdF_le)) (by repeat' (first | assumption | omega | (intro q h; cases h; done) | apply nmF_er | apply skF_er | apply rdF_er | apply bdF_er | apply flF_le | apply nmF_le | apply skF_le | apply rdF_le | apply bdF_le))) ⟨Nat.le_of_ble_eq_true rfl, Nat.le_of_ble_eq_true rfl⟩ rfl rfl 0 rfl rfl hl.1 rfl (Nat.le_of_ble_eq_true rfl) ⟨Nat.le_of_ble_eq_true rfl, Nat.le_of_ble_eq_true rfl⟩ dX2_readOrder_163 (fun u H locs hw hP hD hS => ?_)
      obtain ⟨i9_1, o9_2, a9_3, b9_4, c9_5⟩ := u
      dsimp only at hw hP hD
      have hP : va_P D vwCl ([(a, .inr (2, [.ref b, .int (nI L), .int (nI i9_1), .int (optI o9_2), .int (tx i), .int a9_3, .int b9_4, .int c9_5])), (b, .inl (g 0, 100, .inl tx))]) H := hP
      have hD : va_D A ([(a, .inr (2, [.ref b, .int (nI L), .int (nI i9_1), .int (optI o9_2), .int (tx i), .int a9_3, .int b9_4, .int c9_5])), (b, .inl (g 0, 100, .inl tx))]) := hD
      have hw6 := hw
      have hbd := hw
      have hbi : i9_1 ≤ L := by have h := bdF_le (tx := tx) (L := L) (i := i + 1) (o := none) hlt; rw [← hbd] at h; exact h
      have hbo : ∀ q, o9_2 = some q → q ≤ 100 := by have h := bdF_er (tx := tx) (L := L) (i := i + 1) (o := none) hL hlt (fun q h => by cases h); rw [← hbd] at h; exact h
      refine lv_goto (tgt := 177) hx hb dX2_readOrder_166 (by decide) ?_
      refine lv_aload_n hx hb dX2_readOrder_177 rfl (lv_at hl 0 rfl) ?_
      refine lv_bipush (v := 59) hx hb dX2_readOrder_178 (by decide) ?_
      refine cl_X2_48 (As := [.int 59]) (rest := []) (b := a) (wc := [(a, .inr (2, [.ref b, .int (nI L), .int (nI i9_1), .int (optI o9_2), .int (tx i), .int a9_3, .int b9_4, .int c9_5])), (b, .inl (g 0, 100, .inl tx))]) (wr := []) (wn := (fun _ => [(a, .inr (2, [.ref b, .int (nI L), .int (nI (skF tx L 59 i9_1 o9_2).1), .int (optI (skF tx L 59 i9_1 o9_2).2), .int (tx i), .int a9_3, .int b9_4, .int c9_5])), (b, .inl (g 0, 100, .inl tx))])) (isC := [0, 1]) (isR := []) (isP := [0, 1]) E hS hA hP hD ⟨rfl, rfl, rfl, rfl, by decide, fun _ => rfl, rfl⟩ (CX2_skip l D g _ a b L i9_1 o9_2 (tx i) a9_3 b9_4 c9_5 tx 59 (by first | assumption | omega) (by repeat' (first | assumption | omega | apply nmF_le | apply skF_le | apply rdF_le | apply bdF_le)) (by repeat' (first | assumption | omega | (intro q h; cases h; done) | apply nmF_er | apply skF_er | apply rdF_er | apply bdF_er | apply flF_le | apply nmF_le | apply skF_le | apply rdF_le | apply bdF_le))) ⟨Nat.le_of_ble_eq_true rfl, Nat.le_of_ble_eq_true rfl⟩ rfl rfl 0 rfl rfl hl.1 rfl (Nat.le_of_ble_eq_true rfl) ⟨Nat.le_of_ble_eq_true rfl, Nat.le_of_ble_eq_true rfl⟩ dX2_readOrder_180 (fun u H locs hw hP hD hS => ?_)
      have hP : va_P D vwCl ([(a, .inr (2, [.ref b, .int (nI L), .int (nI (skF tx L 59 i9_1 o9_2).1), .int (optI (skF tx L 59 i9_1 o9_2).2), .int (tx i), .int a9_3, .int b9_4, .int c9_5])), (b, .inl (g 0, 100, .inl tx))]) H := hP
      have hD : va_D A ([(a, .inr (2, [.ref b, .int (nI L), .int (nI (skF tx L 59 i9_1 o9_2).1), .int (optI (skF tx L 59 i9_1 o9_2).2), .int (tx i), .int a9_3, .int b9_4, .int c9_5])), (b, .inl (g 0, 100, .inl tx))]) := hD
      refine lv_aload_n hx hb dX2_readOrder_183 rfl (lv_at hl 0 rfl) ?_
      refine gf_X2_22 E hP 0 rfl rfl dX2_readOrder_184 ?_
      have hro := (by have h := roF_b (L := L) w_30_98; rw [← hbd] at h; exact h)
      refine lv_iconst (v := (-1)) hx hb dX2_readOrder_187 (by decide) ?_
      refine lv_icmp_ne (tgt := 195) hx hb dX2_readOrder_188 (by decide) (fun c_188 => ?_) (fun c_188 => ?_)
      · skip
        refine lv_iconst (v := 0) hx hb dX2_readOrder_195 (by decide) ?_
        exact g_zret hQ E M rfl (Or.inl rfl) hS hP hD ((skF tx L 59 i9_1 o9_2).1, (skF tx L 59 i9_1 o9_2).2, (tx i), a9_3, b9_4, c9_5) rfl (Or.inr ⟨rfl, Or.inr ⟨hlt, (by rw [hro]), optI_some c_188⟩⟩) dX2_readOrder_196
      · skip
        refine lv_iconst (v := 1) hx hb dX2_readOrder_191 (by decide) ?_
        refine lv_goto (tgt := 196) hx hb dX2_readOrder_192 (by decide) ?_
        exact g_zret hQ E M rfl (Or.inr rfl) hS hP hD ((skF tx L 59 i9_1 o9_2).1, (skF tx L 59 i9_1 o9_2).2, (tx i), a9_3, b9_4, c9_5) rfl (Or.inl ⟨rfl, ⟨hlt, (optN (by repeat' (first | assumption | omega | (intro q h; cases h; done) | apply nmF_er | apply skF_er | apply rdF_er | apply bdF_er | apply flF_le | apply nmF_le | apply skF_le | apply rdF_le | apply bdF_le)) c_188), by rw [hro], by rw [hro], rfl, (roK_b w_30_98 (by rw [hro]; exact ⟨rfl, rfl, rfl⟩))⟩⟩) dX2_readOrder_196
    by_cases w_30_108 : (tx i) = 108
    · refine lv_lookup (off := 109) (tgt := 139) hx hb dX2_readOrder_30 (by decide) (by rw [w_30_108]; rfl) (by decide) ?_
      refine lv_aload_n hx hb dX2_readOrder_139 rfl (lv_at hl 0 rfl) ?_
      refine lv_dup hx hb dX2_readOrder_140 rfl ?_
      refine gf_X2_19 E hP 0 rfl rfl dX2_readOrder_141 ?_
      refine lv_iconst (v := 1) hx hb dX2_readOrder_144 (by decide) ?_
      refine lv_iadd hx hb dX2_readOrder_145 ?_
      refine g_top (w := .int (nI (i + 1))) (congrArg Value.int (ix_add rfl rfl)) ?_
      refine gp_X2_19 E hP hD hS 0 rfl rfl rfl (Nat.le_of_ble_eq_true rfl) dX2_readOrder_146 (fun H locs hP hD hS => ?_)
      have hP : va_P D vwCl ([(a, .inr (2, [.ref b, .int (nI L), .int (nI (i + 1)), .int (optI none), .int (tx i), .int f1, .int f2, .int f3])), (b, .inl (g 0, 100, .inl tx))]) H := hP
      have hD : va_D A ([(a, .inr (2, [.ref b, .int (nI L), .int (nI (i + 1)), .int (optI none), .int (tx i), .int f1, .int f2, .int f3])), (b, .inl (g 0, 100, .inl tx))]) := hD
      refine lv_goto (tgt := 177) hx hb dX2_readOrder_149 (by decide) ?_
      refine lv_aload_n hx hb dX2_readOrder_177 rfl (lv_at hl 0 rfl) ?_
      refine lv_bipush (v := 59) hx hb dX2_readOrder_178 (by decide) ?_
      refine cl_X2_48 (As := [.int 59]) (rest := []) (b := a) (wc := [(a, .inr (2, [.ref b, .int (nI L), .int (nI (i + 1)), .int (optI none), .int (tx i), .int f1, .int f2, .int f3])), (b, .inl (g 0, 100, .inl tx))]) (wr := []) (wn := (fun _ => [(a, .inr (2, [.ref b, .int (nI L), .int (nI (skF tx L 59 (i + 1) none).1), .int (optI (skF tx L 59 (i + 1) none).2), .int (tx i), .int f1, .int f2, .int f3])), (b, .inl (g 0, 100, .inl tx))])) (isC := [0, 1]) (isR := []) (isP := [0, 1]) E hS hA hP hD ⟨rfl, rfl, rfl, rfl, by decide, fun _ => rfl, rfl⟩ (CX2_skip l D g _ a b L (i + 1) none (tx i) f1 f2 f3 tx 59 (by first | assumption | omega) (by repeat' (first | assumption | omega | apply nmF_le | apply skF_le | apply rdF_le | apply bdF_le)) (by repeat' (first | assumption | omega | (intro q h; cases h; done) | apply nmF_er | apply skF_er | apply rdF_er | apply bdF_er | apply flF_le | apply nmF_le | apply skF_le | apply rdF_le | apply bdF_le))) ⟨Nat.le_of_ble_eq_true rfl, Nat.le_of_ble_eq_true rfl⟩ rfl rfl 0 rfl rfl hl.1 rfl (Nat.le_of_ble_eq_true rfl) ⟨Nat.le_of_ble_eq_true rfl, Nat.le_of_ble_eq_true rfl⟩ dX2_readOrder_180 (fun u H locs hw hP hD hS => ?_)
      have hP : va_P D vwCl ([(a, .inr (2, [.ref b, .int (nI L), .int (nI (skF tx L 59 (i + 1) none).1), .int (optI (skF tx L 59 (i + 1) none).2), .int (tx i), .int f1, .int f2, .int f3])), (b, .inl (g 0, 100, .inl tx))]) H := hP
      have hD : va_D A ([(a, .inr (2, [.ref b, .int (nI L), .int (nI (skF tx L 59 (i + 1) none).1), .int (optI (skF tx L 59 (i + 1) none).2), .int (tx i), .int f1, .int f2, .int f3])), (b, .inl (g 0, 100, .inl tx))]) := hD
      refine lv_aload_n hx hb dX2_readOrder_183 rfl (lv_at hl 0 rfl) ?_
      refine gf_X2_22 E hP 0 rfl rfl dX2_readOrder_184 ?_
      have hro := (roF_l (L := L) w_30_108)
      refine lv_iconst (v := (-1)) hx hb dX2_readOrder_187 (by decide) ?_
      refine lv_icmp_ne (tgt := 195) hx hb dX2_readOrder_188 (by decide) (fun c_188 => ?_) (fun c_188 => ?_)
      · skip
        refine lv_iconst (v := 0) hx hb dX2_readOrder_195 (by decide) ?_
        exact g_zret hQ E M rfl (Or.inl rfl) hS hP hD ((skF tx L 59 (i + 1) none).1, (skF tx L 59 (i + 1) none).2, (tx i), f1, f2, f3) rfl (Or.inr ⟨rfl, Or.inr ⟨hlt, (by rw [hro]), optI_some c_188⟩⟩) dX2_readOrder_196
      · skip
        refine lv_iconst (v := 1) hx hb dX2_readOrder_191 (by decide) ?_
        refine lv_goto (tgt := 196) hx hb dX2_readOrder_192 (by decide) ?_
        exact g_zret hQ E M rfl (Or.inr rfl) hS hP hD ((skF tx L 59 (i + 1) none).1, (skF tx L 59 (i + 1) none).2, (tx i), f1, f2, f3) rfl (Or.inl ⟨rfl, ⟨hlt, (optN (by repeat' (first | assumption | omega | (intro q h; cases h; done) | apply nmF_er | apply skF_er | apply rdF_er | apply bdF_er | apply flF_le | apply nmF_le | apply skF_le | apply rdF_le | apply bdF_le)) c_188), by rw [hro], by rw [hro], rfl, (roK_l w_30_108)⟩⟩) dX2_readOrder_196
    by_cases w_30_115 : (tx i) = 115
    · refine lv_lookup (off := 42) (tgt := 72) hx hb dX2_readOrder_30 (by decide) (by rw [w_30_115]; rfl) (by decide) ?_
      refine lv_aload_n hx hb dX2_readOrder_72 rfl (lv_at hl 0 rfl) ?_
      refine lv_dup hx hb dX2_readOrder_73 rfl ?_
      refine gf_X2_19 E hP 0 rfl rfl dX2_readOrder_74 ?_
      refine lv_iconst (v := 1) hx hb dX2_readOrder_77 (by decide) ?_
      refine lv_iadd hx hb dX2_readOrder_78 ?_
      refine g_top (w := .int (nI (i + 1))) (congrArg Value.int (ix_add rfl rfl)) ?_
      refine gp_X2_19 E hP hD hS 0 rfl rfl rfl (Nat.le_of_ble_eq_true rfl) dX2_readOrder_79 (fun H locs hP hD hS => ?_)
      have hP : va_P D vwCl ([(a, .inr (2, [.ref b, .int (nI L), .int (nI (i + 1)), .int (optI none), .int (tx i), .int f1, .int f2, .int f3])), (b, .inl (g 0, 100, .inl tx))]) H := hP
      have hD : va_D A ([(a, .inr (2, [.ref b, .int (nI L), .int (nI (i + 1)), .int (optI none), .int (tx i), .int f1, .int f2, .int f3])), (b, .inl (g 0, 100, .inl tx))]) := hD
      refine lv_aload_n hx hb dX2_readOrder_82 rfl (lv_at hl 0 rfl) ?_
      refine lv_aload_n hx hb dX2_readOrder_83 rfl (lv_at hl 0 rfl) ?_
      refine lv_iconst (v := 5) hx hb dX2_readOrder_84 (by decide) ?_
      refine lv_sipush (v := 21599) hx hb dX2_readOrder_85 (by decide) ?_
      refine cl_X2_44 (As := [.int 5, .int 21599]) (rest := [.ref a]) (b := a) (wc := [(a, .inr (2, [.ref b, .int (nI L), .int (nI (i + 1)), .int (optI none), .int (tx i), .int f1, .int f2, .int f3])), (b, .inl (g 0, 100, .inl tx))]) (wr := []) (wn := (fun _ => [(a, .inr (2, [.ref b, .int (nI L), .int (nI (nmF tx L 5 21599 (i + 1) none).1), .int (optI (nmF tx L 5 21599 (i + 1) none).2.1), .int (tx i), .int f1, .int f2, .int f3])), (b, .inl (g 0, 100, .inl tx))])) (isC := [0, 1]) (isR := []) (isP := [0, 1]) E hS hA hP hD ⟨rfl, rfl, rfl, rfl, by decide, fun _ => rfl, rfl⟩ (CX2_readNumber l D g _ a b L (i + 1) none (tx i) f1 f2 f3 tx 5 21599 (by first | assumption | omega) (by repeat' (first | assumption | omega | apply nmF_le | apply skF_le | apply rdF_le | apply bdF_le)) (by repeat' (first | assumption | omega | (intro q h; cases h; done) | apply nmF_er | apply skF_er | apply rdF_er | apply bdF_er | apply flF_le | apply nmF_le | apply skF_le | apply rdF_le | apply bdF_le)) (by decide)) ⟨Nat.le_of_ble_eq_true rfl, Nat.le_of_ble_eq_true rfl⟩ rfl rfl 0 rfl rfl hl.1 rfl (Nat.le_of_ble_eq_true rfl) ⟨Nat.le_of_ble_eq_true rfl, Nat.le_of_ble_eq_true rfl⟩ dX2_readOrder_88 (fun r u H locs hw hP hD hS => ?_)
      have hP : va_P D vwCl ([(a, .inr (2, [.ref b, .int (nI L), .int (nI (nmF tx L 5 21599 (i + 1) none).1), .int (optI (nmF tx L 5 21599 (i + 1) none).2.1), .int (tx i), .int f1, .int f2, .int f3])), (b, .inl (g 0, 100, .inl tx))]) H := hP
      have hD : va_D A ([(a, .inr (2, [.ref b, .int (nI L), .int (nI (nmF tx L 5 21599 (i + 1) none).1), .int (optI (nmF tx L 5 21599 (i + 1) none).2.1), .int (tx i), .int f1, .int f2, .int f3])), (b, .inl (g 0, 100, .inl tx))]) := hD
      subst hw
      refine gp_X2_28 E hP hD hS 0 rfl rfl rfl (Nat.le_of_ble_eq_true rfl) dX2_readOrder_91 (fun H locs hP hD hS => ?_)
      have hP : va_P D vwCl ([(a, .inr (2, [.ref b, .int (nI L), .int (nI (nmF tx L 5 21599 (i + 1) none).1), .int (optI (nmF tx L 5 21599 (i + 1) none).2.1), .int (tx i), .int ((nmF tx L 5 21599 (i + 1) none).2.2), .int f2, .int f3])), (b, .inl (g 0, 100, .inl tx))]) H := hP
      have hD : va_D A ([(a, .inr (2, [.ref b, .int (nI L), .int (nI (nmF tx L 5 21599 (i + 1) none).1), .int (optI (nmF tx L 5 21599 (i + 1) none).2.1), .int (tx i), .int ((nmF tx L 5 21599 (i + 1) none).2.2), .int f2, .int f3])), (b, .inl (g 0, 100, .inl tx))]) := hD
      refine lv_aload_n hx hb dX2_readOrder_94 rfl (lv_at hl 0 rfl) ?_
      refine lv_bipush (v := 44) hx hb dX2_readOrder_95 (by decide) ?_
      refine cl_X2_48 (As := [.int 44]) (rest := []) (b := a) (wc := [(a, .inr (2, [.ref b, .int (nI L), .int (nI (nmF tx L 5 21599 (i + 1) none).1), .int (optI (nmF tx L 5 21599 (i + 1) none).2.1), .int (tx i), .int ((nmF tx L 5 21599 (i + 1) none).2.2), .int f2, .int f3])), (b, .inl (g 0, 100, .inl tx))]) (wr := []) (wn := (fun _ => [(a, .inr (2, [.ref b, .int (nI L), .int (nI (skF tx L 44 ((nmF tx L 5 21599 (i + 1) none).1) ((nmF tx L 5 21599 (i + 1) none).2.1)).1), .int (optI (skF tx L 44 ((nmF tx L 5 21599 (i + 1) none).1) ((nmF tx L 5 21599 (i + 1) none).2.1)).2), .int (tx i), .int ((nmF tx L 5 21599 (i + 1) none).2.2), .int f2, .int f3])), (b, .inl (g 0, 100, .inl tx))])) (isC := [0, 1]) (isR := []) (isP := [0, 1]) E hS hA hP hD ⟨rfl, rfl, rfl, rfl, by decide, fun _ => rfl, rfl⟩ (CX2_skip l D g _ a b L ((nmF tx L 5 21599 (i + 1) none).1) ((nmF tx L 5 21599 (i + 1) none).2.1) (tx i) ((nmF tx L 5 21599 (i + 1) none).2.2) f2 f3 tx 44 (by first | assumption | omega) (by repeat' (first | assumption | omega | apply nmF_le | apply skF_le | apply rdF_le | apply bdF_le)) (by repeat' (first | assumption | omega | (intro q h; cases h; done) | apply nmF_er | apply skF_er | apply rdF_er | apply bdF_er | apply flF_le | apply nmF_le | apply skF_le | apply rdF_le | apply bdF_le))) ⟨Nat.le_of_ble_eq_true rfl, Nat.le_of_ble_eq_true rfl⟩ rfl rfl 0 rfl rfl hl.1 rfl (Nat.le_of_ble_eq_true rfl) ⟨Nat.le_of_ble_eq_true rfl, Nat.le_of_ble_eq_true rfl⟩ dX2_readOrder_97 (fun u H locs hw hP hD hS => ?_)
      have hP : va_P D vwCl ([(a, .inr (2, [.ref b, .int (nI L), .int (nI (skF tx L 44 ((nmF tx L 5 21599 (i + 1) none).1) ((nmF tx L 5 21599 (i + 1) none).2.1)).1), .int (optI (skF tx L 44 ((nmF tx L 5 21599 (i + 1) none).1) ((nmF tx L 5 21599 (i + 1) none).2.1)).2), .int (tx i), .int ((nmF tx L 5 21599 (i + 1) none).2.2), .int f2, .int f3])), (b, .inl (g 0, 100, .inl tx))]) H := hP
      have hD : va_D A ([(a, .inr (2, [.ref b, .int (nI L), .int (nI (skF tx L 44 ((nmF tx L 5 21599 (i + 1) none).1) ((nmF tx L 5 21599 (i + 1) none).2.1)).1), .int (optI (skF tx L 44 ((nmF tx L 5 21599 (i + 1) none).1) ((nmF tx L 5 21599 (i + 1) none).2.1)).2), .int (tx i), .int ((nmF tx L 5 21599 (i + 1) none).2.2), .int f2, .int f3])), (b, .inl (g 0, 100, .inl tx))]) := hD
      refine lv_aload_n hx hb dX2_readOrder_100 rfl (lv_at hl 0 rfl) ?_
      refine lv_aload_n hx hb dX2_readOrder_101 rfl (lv_at hl 0 rfl) ?_
      refine lv_iconst (v := 4) hx hb dX2_readOrder_102 (by decide) ?_
      refine lv_sipush (v := 5400) hx hb dX2_readOrder_103 (by decide) ?_
      refine cl_X2_44 (As := [.int 4, .int 5400]) (rest := [.ref a]) (b := a) (wc := [(a, .inr (2, [.ref b, .int (nI L), .int (nI (skF tx L 44 ((nmF tx L 5 21599 (i + 1) none).1) ((nmF tx L 5 21599 (i + 1) none).2.1)).1), .int (optI (skF tx L 44 ((nmF tx L 5 21599 (i + 1) none).1) ((nmF tx L 5 21599 (i + 1) none).2.1)).2), .int (tx i), .int ((nmF tx L 5 21599 (i + 1) none).2.2), .int f2, .int f3])), (b, .inl (g 0, 100, .inl tx))]) (wr := []) (wn := (fun _ => [(a, .inr (2, [.ref b, .int (nI L), .int (nI (nmF tx L 4 5400 ((skF tx L 44 (nmF tx L 5 21599 (i + 1) none).1 (nmF tx L 5 21599 (i + 1) none).2.1).1) ((skF tx L 44 (nmF tx L 5 21599 (i + 1) none).1 (nmF tx L 5 21599 (i + 1) none).2.1).2)).1), .int (optI (nmF tx L 4 5400 ((skF tx L 44 (nmF tx L 5 21599 (i + 1) none).1 (nmF tx L 5 21599 (i + 1) none).2.1).1) ((skF tx L 44 (nmF tx L 5 21599 (i + 1) none).1 (nmF tx L 5 21599 (i + 1) none).2.1).2)).2.1), .int (tx i), .int ((nmF tx L 5 21599 (i + 1) none).2.2), .int f2, .int f3])), (b, .inl (g 0, 100, .inl tx))])) (isC := [0, 1]) (isR := []) (isP := [0, 1]) E hS hA hP hD ⟨rfl, rfl, rfl, rfl, by decide, fun _ => rfl, rfl⟩ (CX2_readNumber l D g _ a b L ((skF tx L 44 (nmF tx L 5 21599 (i + 1) none).1 (nmF tx L 5 21599 (i + 1) none).2.1).1) ((skF tx L 44 (nmF tx L 5 21599 (i + 1) none).1 (nmF tx L 5 21599 (i + 1) none).2.1).2) (tx i) ((nmF tx L 5 21599 (i + 1) none).2.2) f2 f3 tx 4 5400 (by first | assumption | omega) (by repeat' (first | assumption | omega | apply nmF_le | apply skF_le | apply rdF_le | apply bdF_le)) (by repeat' (first | assumption | omega | (intro q h; cases h; done) | apply nmF_er | apply skF_er | apply rdF_er | apply bdF_er | apply flF_le | apply nmF_le | apply skF_le | apply rdF_le | apply bdF_le)) (by decide)) ⟨Nat.le_of_ble_eq_true rfl, Nat.le_of_ble_eq_true rfl⟩ rfl rfl 0 rfl rfl hl.1 rfl (Nat.le_of_ble_eq_true rfl) ⟨Nat.le_of_ble_eq_true rfl, Nat.le_of_ble_eq_true rfl⟩ dX2_readOrder_106 (fun r u H locs hw hP hD hS => ?_)
      have hP : va_P D vwCl ([(a, .inr (2, [.ref b, .int (nI L), .int (nI (nmF tx L 4 5400 ((skF tx L 44 (nmF tx L 5 21599 (i + 1) none).1 (nmF tx L 5 21599 (i + 1) none).2.1).1) ((skF tx L 44 (nmF tx L 5 21599 (i + 1) none).1 (nmF tx L 5 21599 (i + 1) none).2.1).2)).1), .int (optI (nmF tx L 4 5400 ((skF tx L 44 (nmF tx L 5 21599 (i + 1) none).1 (nmF tx L 5 21599 (i + 1) none).2.1).1) ((skF tx L 44 (nmF tx L 5 21599 (i + 1) none).1 (nmF tx L 5 21599 (i + 1) none).2.1).2)).2.1), .int (tx i), .int ((nmF tx L 5 21599 (i + 1) none).2.2), .int f2, .int f3])), (b, .inl (g 0, 100, .inl tx))]) H := hP
      have hD : va_D A ([(a, .inr (2, [.ref b, .int (nI L), .int (nI (nmF tx L 4 5400 ((skF tx L 44 (nmF tx L 5 21599 (i + 1) none).1 (nmF tx L 5 21599 (i + 1) none).2.1).1) ((skF tx L 44 (nmF tx L 5 21599 (i + 1) none).1 (nmF tx L 5 21599 (i + 1) none).2.1).2)).1), .int (optI (nmF tx L 4 5400 ((skF tx L 44 (nmF tx L 5 21599 (i + 1) none).1 (nmF tx L 5 21599 (i + 1) none).2.1).1) ((skF tx L 44 (nmF tx L 5 21599 (i + 1) none).1 (nmF tx L 5 21599 (i + 1) none).2.1).2)).2.1), .int (tx i), .int ((nmF tx L 5 21599 (i + 1) none).2.2), .int f2, .int f3])), (b, .inl (g 0, 100, .inl tx))]) := hD
      subst hw
      refine gp_X2_31 E hP hD hS 0 rfl rfl rfl (Nat.le_of_ble_eq_true rfl) dX2_readOrder_109 (fun H locs hP hD hS => ?_)
      have hP : va_P D vwCl ([(a, .inr (2, [.ref b, .int (nI L), .int (nI (nmF tx L 4 5400 ((skF tx L 44 (nmF tx L 5 21599 (i + 1) none).1 (nmF tx L 5 21599 (i + 1) none).2.1).1) ((skF tx L 44 (nmF tx L 5 21599 (i + 1) none).1 (nmF tx L 5 21599 (i + 1) none).2.1).2)).1), .int (optI (nmF tx L 4 5400 ((skF tx L 44 (nmF tx L 5 21599 (i + 1) none).1 (nmF tx L 5 21599 (i + 1) none).2.1).1) ((skF tx L 44 (nmF tx L 5 21599 (i + 1) none).1 (nmF tx L 5 21599 (i + 1) none).2.1).2)).2.1), .int (tx i), .int ((nmF tx L 5 21599 (i + 1) none).2.2), .int ((nmF tx L 4 5400 ((skF tx L 44 (nmF tx L 5 21599 (i + 1) none).1 (nmF tx L 5 21599 (i + 1) none).2.1).1) ((skF tx L 44 (nmF tx L 5 21599 (i + 1) none).1 (nmF tx L 5 21599 (i + 1) none).2.1).2)).2.2), .int f3])), (b, .inl (g 0, 100, .inl tx))]) H := hP
      have hD : va_D A ([(a, .inr (2, [.ref b, .int (nI L), .int (nI (nmF tx L 4 5400 ((skF tx L 44 (nmF tx L 5 21599 (i + 1) none).1 (nmF tx L 5 21599 (i + 1) none).2.1).1) ((skF tx L 44 (nmF tx L 5 21599 (i + 1) none).1 (nmF tx L 5 21599 (i + 1) none).2.1).2)).1), .int (optI (nmF tx L 4 5400 ((skF tx L 44 (nmF tx L 5 21599 (i + 1) none).1 (nmF tx L 5 21599 (i + 1) none).2.1).1) ((skF tx L 44 (nmF tx L 5 21599 (i + 1) none).1 (nmF tx L 5 21599 (i + 1) none).2.1).2)).2.1), .int (tx i), .int ((nmF tx L 5 21599 (i + 1) none).2.2), .int ((nmF tx L 4 5400 ((skF tx L 44 (nmF tx L 5 21599 (i + 1) none).1 (nmF tx L 5 21599 (i + 1) none).2.1).1) ((skF tx L 44 (nmF tx L 5 21599 (i + 1) none).1 (nmF tx L 5 21599 (i + 1) none).2.1).2)).2.2), .int f3])), (b, .inl (g 0, 100, .inl tx))]) := hD
      refine lv_goto (tgt := 177) hx hb dX2_readOrder_112 (by decide) ?_
      refine lv_aload_n hx hb dX2_readOrder_177 rfl (lv_at hl 0 rfl) ?_
      refine lv_bipush (v := 59) hx hb dX2_readOrder_178 (by decide) ?_
      refine cl_X2_48 (As := [.int 59]) (rest := []) (b := a) (wc := [(a, .inr (2, [.ref b, .int (nI L), .int (nI (nmF tx L 4 5400 ((skF tx L 44 (nmF tx L 5 21599 (i + 1) none).1 (nmF tx L 5 21599 (i + 1) none).2.1).1) ((skF tx L 44 (nmF tx L 5 21599 (i + 1) none).1 (nmF tx L 5 21599 (i + 1) none).2.1).2)).1), .int (optI (nmF tx L 4 5400 ((skF tx L 44 (nmF tx L 5 21599 (i + 1) none).1 (nmF tx L 5 21599 (i + 1) none).2.1).1) ((skF tx L 44 (nmF tx L 5 21599 (i + 1) none).1 (nmF tx L 5 21599 (i + 1) none).2.1).2)).2.1), .int (tx i), .int ((nmF tx L 5 21599 (i + 1) none).2.2), .int ((nmF tx L 4 5400 ((skF tx L 44 (nmF tx L 5 21599 (i + 1) none).1 (nmF tx L 5 21599 (i + 1) none).2.1).1) ((skF tx L 44 (nmF tx L 5 21599 (i + 1) none).1 (nmF tx L 5 21599 (i + 1) none).2.1).2)).2.2), .int f3])), (b, .inl (g 0, 100, .inl tx))]) (wr := []) (wn := (fun _ => [(a, .inr (2, [.ref b, .int (nI L), .int (nI (skF tx L 59 ((nmF tx L 4 5400 (skF tx L 44 (nmF tx L 5 21599 (i + 1) none).1 (nmF tx L 5 21599 (i + 1) none).2.1).1 (skF tx L 44 (nmF tx L 5 21599 (i + 1) none).1 (nmF tx L 5 21599 (i + 1) none).2.1).2).1) ((nmF tx L 4 5400 (skF tx L 44 (nmF tx L 5 21599 (i + 1) none).1 (nmF tx L 5 21599 (i + 1) none).2.1).1 (skF tx L 44 (nmF tx L 5 21599 (i + 1) none).1 (nmF tx L 5 21599 (i + 1) none).2.1).2).2.1)).1), .int (optI (skF tx L 59 ((nmF tx L 4 5400 (skF tx L 44 (nmF tx L 5 21599 (i + 1) none).1 (nmF tx L 5 21599 (i + 1) none).2.1).1 (skF tx L 44 (nmF tx L 5 21599 (i + 1) none).1 (nmF tx L 5 21599 (i + 1) none).2.1).2).1) ((nmF tx L 4 5400 (skF tx L 44 (nmF tx L 5 21599 (i + 1) none).1 (nmF tx L 5 21599 (i + 1) none).2.1).1 (skF tx L 44 (nmF tx L 5 21599 (i + 1) none).1 (nmF tx L 5 21599 (i + 1) none).2.1).2).2.1)).2), .int (tx i), .int ((nmF tx L 5 21599 (i + 1) none).2.2), .int ((nmF tx L 4 5400 ((skF tx L 44 (nmF tx L 5 21599 (i + 1) none).1 (nmF tx L 5 21599 (i + 1) none).2.1).1) ((skF tx L 44 (nmF tx L 5 21599 (i + 1) none).1 (nmF tx L 5 21599 (i + 1) none).2.1).2)).2.2), .int f3])), (b, .inl (g 0, 100, .inl tx))])) (isC := [0, 1]) (isR := []) (isP := [0, 1]) E hS hA hP hD ⟨rfl, rfl, rfl, rfl, by decide, fun _ => rfl, rfl⟩ (CX2_skip l D g _ a b L ((nmF tx L 4 5400 (skF tx L 44 (nmF tx L 5 21599 (i + 1) none).1 (nmF tx L 5 21599 (i + 1) none).2.1).1 (skF tx L 44 (nmF tx L 5 21599 (i + 1) none).1 (nmF tx L 5 21599 (i + 1) none).2.1).2).1) ((nmF tx L 4 5400 (skF tx L 44 (nmF tx L 5 21599 (i + 1) none).1 (nmF tx L 5 21599 (i + 1) none).2.1).1 (skF tx L 44 (nmF tx L 5 21599 (i + 1) none).1 (nmF tx L 5 21599 (i + 1) none).2.1).2).2.1) (tx i) ((nmF tx L 5 21599 (i + 1) none).2.2) ((nmF tx L 4 5400 ((skF tx L 44 (nmF tx L 5 21599 (i + 1) none).1 (nmF tx L 5 21599 (i + 1) none).2.1).1) ((skF tx L 44 (nmF tx L 5 21599 (i + 1) none).1 (nmF tx L 5 21599 (i + 1) none).2.1).2)).2.2) f3 tx 59 (by first | assumption | omega) (by repeat' (first | assumption | omega | apply nmF_le | apply skF_le | apply rdF_le | apply bdF_le)) (by repeat' (first | assumption | omega | (intro q h; cases h; done) | apply nmF_er | apply skF_er | apply rdF_er | apply bdF_er | apply flF_le | apply nmF_le | apply skF_le | apply rdF_le | apply bdF_le))) ⟨Nat.le_of_ble_eq_true rfl, Nat.le_of_ble_eq_true rfl⟩ rfl rfl 0 rfl rfl hl.1 rfl (Nat.le_of_ble_eq_true rfl) ⟨Nat.le_of_ble_eq_true rfl, Nat.le_of_ble_eq_true rfl⟩ dX2_readOrder_180 (fun u H locs hw hP hD hS => ?_)
      have hP : va_P D vwCl ([(a, .inr (2, [.ref b, .int (nI L), .int (nI (skF tx L 59 ((nmF tx L 4 5400 (skF tx L 44 (nmF tx L 5 21599 (i + 1) none).1 (nmF tx L 5 21599 (i + 1) none).2.1).1 (skF tx L 44 (nmF tx L 5 21599 (i + 1) none).1 (nmF tx L 5 21599 (i + 1) none).2.1).2).1) ((nmF tx L 4 5400 (skF tx L 44 (nmF tx L 5 21599 (i + 1) none).1 (nmF tx L 5 21599 (i + 1) none).2.1).1 (skF tx L 44 (nmF tx L 5 21599 (i + 1) none).1 (nmF tx L 5 21599 (i + 1) none).2.1).2).2.1)).1), .int (optI (skF tx L 59 ((nmF tx L 4 5400 (skF tx L 44 (nmF tx L 5 21599 (i + 1) none).1 (nmF tx L 5 21599 (i + 1) none).2.1).1 (skF tx L 44 (nmF tx L 5 21599 (i + 1) none).1 (nmF tx L 5 21599 (i + 1) none).2.1).2).1) ((nmF tx L 4 5400 (skF tx L 44 (nmF tx L 5 21599 (i + 1) none).1 (nmF tx L 5 21599 (i + 1) none).2.1).1 (skF tx L 44 (nmF tx L 5 21599 (i + 1) none).1 (nmF tx L 5 21599 (i + 1) none).2.1).2).2.1)).2), .int (tx i), .int ((nmF tx L 5 21599 (i + 1) none).2.2), .int ((nmF tx L 4 5400 ((skF tx L 44 (nmF tx L 5 21599 (i + 1) none).1 (nmF tx L 5 21599 (i + 1) none).2.1).1) ((skF tx L 44 (nmF tx L 5 21599 (i + 1) none).1 (nmF tx L 5 21599 (i + 1) none).2.1).2)).2.2), .int f3])), (b, .inl (g 0, 100, .inl tx))]) H := hP
      have hD : va_D A ([(a, .inr (2, [.ref b, .int (nI L), .int (nI (skF tx L 59 ((nmF tx L 4 5400 (skF tx L 44 (nmF tx L 5 21599 (i + 1) none).1 (nmF tx L 5 21599 (i + 1) none).2.1).1 (skF tx L 44 (nmF tx L 5 21599 (i + 1) none).1 (nmF tx L 5 21599 (i + 1) none).2.1).2).1) ((nmF tx L 4 5400 (skF tx L 44 (nmF tx L 5 21599 (i + 1) none).1 (nmF tx L 5 21599 (i + 1) none).2.1).1 (skF tx L 44 (nmF tx L 5 21599 (i + 1) none).1 (nmF tx L 5 21599 (i + 1) none).2.1).2).2.1)).1), .int (optI (skF tx L 59 ((nmF tx L 4 5400 (skF tx L 44 (nmF tx L 5 21599 (i + 1) none).1 (nmF tx L 5 21599 (i + 1) none).2.1).1 (skF tx L 44 (nmF tx L 5 21599 (i + 1) none).1 (nmF tx L 5 21599 (i + 1) none).2.1).2).1) ((nmF tx L 4 5400 (skF tx L 44 (nmF tx L 5 21599 (i + 1) none).1 (nmF tx L 5 21599 (i + 1) none).2.1).1 (skF tx L 44 (nmF tx L 5 21599 (i + 1) none).1 (nmF tx L 5 21599 (i + 1) none).2.1).2).2.1)).2), .int (tx i), .int ((nmF tx L 5 21599 (i + 1) none).2.2), .int ((nmF tx L 4 5400 ((skF tx L 44 (nmF tx L 5 21599 (i + 1) none).1 (nmF tx L 5 21599 (i + 1) none).2.1).1) ((skF tx L 44 (nmF tx L 5 21599 (i + 1) none).1 (nmF tx L 5 21599 (i + 1) none).2.1).2)).2.2), .int f3])), (b, .inl (g 0, 100, .inl tx))]) := hD
      refine lv_aload_n hx hb dX2_readOrder_183 rfl (lv_at hl 0 rfl) ?_
      refine gf_X2_22 E hP 0 rfl rfl dX2_readOrder_184 ?_
      have hro := (roF_s (L := L) w_30_115)
      refine lv_iconst (v := (-1)) hx hb dX2_readOrder_187 (by decide) ?_
      refine lv_icmp_ne (tgt := 195) hx hb dX2_readOrder_188 (by decide) (fun c_188 => ?_) (fun c_188 => ?_)
      · skip
        refine lv_iconst (v := 0) hx hb dX2_readOrder_195 (by decide) ?_
        exact g_zret hQ E M rfl (Or.inl rfl) hS hP hD ((skF tx L 59 ((nmF tx L 4 5400 (skF tx L 44 (nmF tx L 5 21599 (i + 1) none).1 (nmF tx L 5 21599 (i + 1) none).2.1).1 (skF tx L 44 (nmF tx L 5 21599 (i + 1) none).1 (nmF tx L 5 21599 (i + 1) none).2.1).2).1) ((nmF tx L 4 5400 (skF tx L 44 (nmF tx L 5 21599 (i + 1) none).1 (nmF tx L 5 21599 (i + 1) none).2.1).1 (skF tx L 44 (nmF tx L 5 21599 (i + 1) none).1 (nmF tx L 5 21599 (i + 1) none).2.1).2).2.1)).1, (skF tx L 59 ((nmF tx L 4 5400 (skF tx L 44 (nmF tx L 5 21599 (i + 1) none).1 (nmF tx L 5 21599 (i + 1) none).2.1).1 (skF tx L 44 (nmF tx L 5 21599 (i + 1) none).1 (nmF tx L 5 21599 (i + 1) none).2.1).2).1) ((nmF tx L 4 5400 (skF tx L 44 (nmF tx L 5 21599 (i + 1) none).1 (nmF tx L 5 21599 (i + 1) none).2.1).1 (skF tx L 44 (nmF tx L 5 21599 (i + 1) none).1 (nmF tx L 5 21599 (i + 1) none).2.1).2).2.1)).2, (tx i), ((nmF tx L 5 21599 (i + 1) none).2.2), ((nmF tx L 4 5400 ((skF tx L 44 (nmF tx L 5 21599 (i + 1) none).1 (nmF tx L 5 21599 (i + 1) none).2.1).1) ((skF tx L 44 (nmF tx L 5 21599 (i + 1) none).1 (nmF tx L 5 21599 (i + 1) none).2.1).2)).2.2), f3) rfl (Or.inr ⟨rfl, Or.inr ⟨hlt, (by rw [hro]), optI_some c_188⟩⟩) dX2_readOrder_196
      · skip
        refine lv_iconst (v := 1) hx hb dX2_readOrder_191 (by decide) ?_
        refine lv_goto (tgt := 196) hx hb dX2_readOrder_192 (by decide) ?_
        exact g_zret hQ E M rfl (Or.inr rfl) hS hP hD ((skF tx L 59 ((nmF tx L 4 5400 (skF tx L 44 (nmF tx L 5 21599 (i + 1) none).1 (nmF tx L 5 21599 (i + 1) none).2.1).1 (skF tx L 44 (nmF tx L 5 21599 (i + 1) none).1 (nmF tx L 5 21599 (i + 1) none).2.1).2).1) ((nmF tx L 4 5400 (skF tx L 44 (nmF tx L 5 21599 (i + 1) none).1 (nmF tx L 5 21599 (i + 1) none).2.1).1 (skF tx L 44 (nmF tx L 5 21599 (i + 1) none).1 (nmF tx L 5 21599 (i + 1) none).2.1).2).2.1)).1, (skF tx L 59 ((nmF tx L 4 5400 (skF tx L 44 (nmF tx L 5 21599 (i + 1) none).1 (nmF tx L 5 21599 (i + 1) none).2.1).1 (skF tx L 44 (nmF tx L 5 21599 (i + 1) none).1 (nmF tx L 5 21599 (i + 1) none).2.1).2).1) ((nmF tx L 4 5400 (skF tx L 44 (nmF tx L 5 21599 (i + 1) none).1 (nmF tx L 5 21599 (i + 1) none).2.1).1 (skF tx L 44 (nmF tx L 5 21599 (i + 1) none).1 (nmF tx L 5 21599 (i + 1) none).2.1).2).2.1)).2, (tx i), ((nmF tx L 5 21599 (i + 1) none).2.2), ((nmF tx L 4 5400 ((skF tx L 44 (nmF tx L 5 21599 (i + 1) none).1 (nmF tx L 5 21599 (i + 1) none).2.1).1) ((skF tx L 44 (nmF tx L 5 21599 (i + 1) none).1 (nmF tx L 5 21599 (i + 1) none).2.1).2)).2.2), f3) rfl (Or.inl ⟨rfl, ⟨hlt, (optN (by repeat' (first | assumption | omega | (intro q h; cases h; done) | apply nmF_er | apply skF_er | apply rdF_er | apply bdF_er | apply flF_le | apply nmF_le | apply skF_le | apply rdF_le | apply bdF_le)) c_188), by rw [hro], by rw [hro], rfl, (roK_s w_30_115 (by rw [hro]; exact ⟨rfl, rfl⟩))⟩⟩) dX2_readOrder_196
    refine lv_lookup (off := 139) (tgt := 169) hx hb dX2_readOrder_30 (by decide) ((lv_osw w_30_97 rfl).trans ((lv_osw w_30_98 rfl).trans ((lv_osw w_30_108 rfl).trans ((lv_osw w_30_115 rfl).trans rfl)))) (by decide) ?_
    refine lv_aload_n hx hb dX2_readOrder_169 rfl (lv_at hl 0 rfl) ?_
    refine lv_aload_n hx hb dX2_readOrder_170 rfl (lv_at hl 0 rfl) ?_
    refine gf_X2_19 E hP 0 rfl rfl dX2_readOrder_171 ?_
    refine cl_X2_55 (As := [.int (nI i)]) (rest := []) (b := a) (wc := [(a, .inr (2, [.ref b, .int (nI L), .int (nI i), .int (optI none), .int (tx i), .int f1, .int f2, .int f3])), (b, .inl (g 0, 100, .inl tx))]) (wr := []) (wn := (fun _ => [(a, .inr (2, [.ref b, .int (nI L), .int (nI i), .int (optI (flF none i)), .int (tx i), .int f1, .int f2, .int f3])), (b, .inl (g 0, 100, .inl tx))])) (isC := [0, 1]) (isR := []) (isP := [0, 1]) E hS hA hP hD ⟨rfl, rfl, rfl, rfl, by decide, fun _ => rfl, rfl⟩ (CX2_fail l D g _ a b L i none (tx i) f1 f2 f3 tx i (by repeat' (first | assumption | omega | (intro q h; cases h; done) | apply nmF_er | apply skF_er | apply rdF_er | apply bdF_er | apply flF_le | apply nmF_le | apply skF_le | apply rdF_le | apply bdF_le))) ⟨Nat.le_of_ble_eq_true rfl, Nat.le_of_ble_eq_true rfl⟩ rfl rfl 0 rfl rfl hl.1 rfl (Nat.le_of_ble_eq_true rfl) ⟨Nat.le_of_ble_eq_true rfl, Nat.le_of_ble_eq_true rfl⟩ dX2_readOrder_174 (fun u H locs hw hP hD hS => ?_)
    have hP : va_P D vwCl ([(a, .inr (2, [.ref b, .int (nI L), .int (nI i), .int (optI (flF none i)), .int (tx i), .int f1, .int f2, .int f3])), (b, .inl (g 0, 100, .inl tx))]) H := hP
    have hD : va_D A ([(a, .inr (2, [.ref b, .int (nI L), .int (nI i), .int (optI (flF none i)), .int (tx i), .int f1, .int f2, .int f3])), (b, .inl (g 0, 100, .inl tx))]) := hD
    refine lv_aload_n hx hb dX2_readOrder_177 rfl (lv_at hl 0 rfl) ?_
    refine lv_bipush (v := 59) hx hb dX2_readOrder_178 (by decide) ?_
    refine cl_X2_48 (As := [.int 59]) (rest := []) (b := a) (wc := [(a, .inr (2, [.ref b, .int (nI L), .int (nI i), .int (optI (flF none i)), .int (tx i), .int f1, .int f2, .int f3])), (b, .inl (g 0, 100, .inl tx))]) (wr := []) (wn := (fun _ => [(a, .inr (2, [.ref b, .int (nI L), .int (nI (skF tx L 59 i (flF none i)).1), .int (optI (skF tx L 59 i (flF none i)).2), .int (tx i), .int f1, .int f2, .int f3])), (b, .inl (g 0, 100, .inl tx))])) (isC := [0, 1]) (isR := []) (isP := [0, 1]) E hS hA hP hD ⟨rfl, rfl, rfl, rfl, by decide, fun _ => rfl, rfl⟩ (CX2_skip l D g _ a b L i (flF none i) (tx i) f1 f2 f3 tx 59 (by first | assumption | omega) (by repeat' (first | assumption | omega | apply nmF_le | apply skF_le | apply rdF_le | apply bdF_le)) (by repeat' (first | assumption | omega | (intro q h; cases h; done) | apply nmF_er | apply skF_er | apply rdF_er | apply bdF_er | apply flF_le | apply nmF_le | apply skF_le | apply rdF_le | apply bdF_le))) ⟨Nat.le_of_ble_eq_true rfl, Nat.le_of_ble_eq_true rfl⟩ rfl rfl 0 rfl rfl hl.1 rfl (Nat.le_of_ble_eq_true rfl) ⟨Nat.le_of_ble_eq_true rfl, Nat.le_of_ble_eq_true rfl⟩ dX2_readOrder_180 (fun u H locs hw hP hD hS => ?_)
    have hP : va_P D vwCl ([(a, .inr (2, [.ref b, .int (nI L), .int (nI (skF tx L 59 i (flF none i)).1), .int (optI (skF tx L 59 i (flF none i)).2), .int (tx i), .int f1, .int f2, .int f3])), (b, .inl (g 0, 100, .inl tx))]) H := hP
    have hD : va_D A ([(a, .inr (2, [.ref b, .int (nI L), .int (nI (skF tx L 59 i (flF none i)).1), .int (optI (skF tx L 59 i (flF none i)).2), .int (tx i), .int f1, .int f2, .int f3])), (b, .inl (g 0, 100, .inl tx))]) := hD
    refine lv_aload_n hx hb dX2_readOrder_183 rfl (lv_at hl 0 rfl) ?_
    refine gf_X2_22 E hP 0 rfl rfl dX2_readOrder_184 ?_
    have hro := (roF_n (L := L) w_30_97 w_30_98 w_30_108 w_30_115)
    refine lv_iconst (v := (-1)) hx hb dX2_readOrder_187 (by decide) ?_
    refine lv_icmp_ne (tgt := 195) hx hb dX2_readOrder_188 (by decide) (fun c_188 => ?_) (fun c_188 => ?_)
    · skip
      refine lv_iconst (v := 0) hx hb dX2_readOrder_195 (by decide) ?_
      exact g_zret hQ E M rfl (Or.inl rfl) hS hP hD ((skF tx L 59 i (flF none i)).1, (skF tx L 59 i (flF none i)).2, (tx i), f1, f2, f3) rfl (Or.inr ⟨rfl, Or.inr ⟨hlt, (by rw [hro]; rfl), ⟨_, rfl⟩⟩⟩) dX2_readOrder_196
    · skip
      refine lv_iconst (v := 1) hx hb dX2_readOrder_191 (by decide) ?_
      refine lv_goto (tgt := 196) hx hb dX2_readOrder_192 (by decide) ?_
      exact g_zret hQ E M rfl (Or.inr rfl) hS hP hD ((skF tx L 59 i (flF none i)).1, (skF tx L 59 i (flF none i)).2, (tx i), f1, f2, f3) rfl (Or.inl ⟨rfl, (nomatch (show some i = none from optN (o := some i) (fun q h => by cases h; omega) c_188))⟩) dX2_readOrder_196
  · skip
    refine lv_iconst (v := 0) hx hb dX2_readOrder_11 (by decide) ?_
    exact g_zret hQ E M rfl (Or.inl rfl) hS hP hD (i, none, kd, f1, f2, f3) rfl (Or.inr ⟨rfl, Or.inl ⟨nI_nlt_of c_8 (by omega) (by omega), rfl, rfl, rfl, rfl, rfl, rfl⟩⟩) dX2_readOrder_12
abbrev rm_X2_syntaxError : Room := { frames := 4, cells := 0, slots := 0, locals := 88 }
set_option maxHeartbeats 600000 in
set_option maxRecDepth 100000 in
theorem CX2_syntaxError (l : Launch) (D : va_G) (g : Nat → ClassId) (sz : Nat) (a b L : Nat) (i0 e0 kd f1 f2 f3 : Int32) (tx : Nat → Int32) (hL : L ≤ 100) : Met l yX2_syntaxError (Cond.code yX2_syntaxError prog_4_method_3_code 2 (some .int) :: WA) rm_X2_syntaxError (va_Pc [.ref a] (Pre D g ([(a, .inr (2, [.ref b, .int (nI L), .int i0, .int e0, .int kd, .int f1, .int f2, .int f3])), (b, .inl (g 0, 100, .inl tx))]) sz)) (va_Qi (fun (r : Int32) (u : (Nat × Option Nat × Int32 × Int32 × Int32 × Int32)) => match u with | (i9, o9, k9, a9, b9, c9) => r = optI (prsN tx L 100 0) ∧ o9 = prsN tx L 100 0) (fun (u : (Nat × Option Nat × Int32 × Int32 × Int32 × Int32)) t => Bp D g (va_A ([(a, .inr (2, [.ref b, .int (nI L), .int i0, .int e0, .int kd, .int f1, .int f2, .int f3])), (b, .inl (g 0, 100, .inl tx))]) sz) (match u with | (i9, o9, k9, a9, b9, c9) => [(a, .inr (2, [.ref b, .int (nI L), .int (nI i9), .int (optI o9), .int k9, .int a9, .int b9, .int c9])), (b, .inl (g 0, 100, .inl tx))]) t) (va_A ([(a, .inr (2, [.ref b, .int (nI L), .int i0, .int e0, .int kd, .int f1, .int f2, .int f3])), (b, .inl (g 0, 100, .inl tx))]) sz)) 0 0 (va_A ([(a, .inr (2, [.ref b, .int (nI L), .int i0, .int e0, .int kd, .int f1, .int f2, .int f3])), (b, .inl (g 0, 100, .inl tx))]) sz) := by
  refine g_met (av := [.ref a]) (QcA := fun A => va_Qi (fun (r : Int32) (u : (Nat × Option Nat × Int32 × Int32 × Int32 × Int32)) => match u with | (i9, o9, k9, a9, b9, c9) => r = optI (prsN tx L 100 0) ∧ o9 = prsN tx L 100 0) (fun (u : (Nat × Option Nat × Int32 × Int32 × Int32 × Int32)) t => Bp D g A (match u with | (i9, o9, k9, a9, b9, c9) => [(a, .inr (2, [.ref b, .int (nI L), .int (nI i9), .int (optI o9), .int k9, .int a9, .int b9, .int c9])), (b, .inl (g 0, 100, .inl tx))]) t) A) rfl (Nat.le_of_ble_eq_true rfl) ?_
  intro p e s m below meth c A Q ls E M hP hD hS hA hQ hl
  have hx := E.1.1
  have hb := E.1.2.1
  have hl : lv_has ls 2 [(0, .ref a)] := hl
  refine lv_aload_n hx hb dX2_syntaxError_0 rfl (lv_at hl 0 rfl) ?_
  refine cl_X2_37 (As := []) (rest := []) (b := a) (wc := [(a, .inr (2, [.ref b, .int (nI L), .int i0, .int e0, .int kd, .int f1, .int f2, .int f3])), (b, .inl (g 0, 100, .inl tx))]) (wr := []) (wn := (fun _ => [(a, .inr (2, [.ref b, .int (nI L), .int (nI 0), .int (optI none), .int kd, .int f1, .int f2, .int f3])), (b, .inl (g 0, 100, .inl tx))])) (isC := [0, 1]) (isR := []) (isP := [0, 1]) E hS hA hP hD ⟨rfl, rfl, rfl, rfl, by decide, fun _ => rfl, rfl⟩ (CX2_rewind l D g _ a b L e0 i0 kd f1 f2 f3 tx) ⟨Nat.le_of_ble_eq_true rfl, Nat.le_of_ble_eq_true rfl⟩ rfl rfl 0 rfl rfl hl.1 rfl (Nat.le_of_ble_eq_true rfl) ⟨Nat.le_of_ble_eq_true rfl, Nat.le_of_ble_eq_true rfl⟩ dX2_syntaxError_1 (fun u H locs hw hP hD hS => ?_)
  have hP : va_P D vwCl ([(a, .inr (2, [.ref b, .int (nI L), .int (nI 0), .int (optI none), .int kd, .int f1, .int f2, .int f3])), (b, .inl (g 0, 100, .inl tx))]) H := hP
  have hD : va_D A ([(a, .inr (2, [.ref b, .int (nI L), .int (nI 0), .int (optI none), .int kd, .int f1, .int f2, .int f3])), (b, .inl (g 0, 100, .inl tx))]) := hD
  refine lv_iconst (v := 0) hx hb dX2_syntaxError_4 (by decide) ?_
  refine lv_istore_n (lv' := [(1, .int 0), (0, .ref a)]) hx hb dX2_syntaxError_5 rfl hl (by decide) rfl (fun ls hl => ?_)
  have LOOP_6 : ∀ (fu_6 : Nat) (i : Nat) (k : Nat) (kv : Int32) (v1 : Int32) (v2 : Int32) (v3 : Int32) (hi : i ≤ L) (hk : k ≤ 100) (hpr : prsN tx L (100 - k) i = prsN tx L 100 0) (hf_6 : 100 - k < fu_6) (H : Heap) (locs : List Loc) (ls : Array Slot), va_P D vwCl ([(a, .inr (2, [.ref b, .int (nI L), .int (nI i), .int (optI none), .int kv, .int v1, .int v2, .int v3])), (b, .inl (g 0, 100, .inl tx))]) H → va_D A ([(a, .inr (2, [.ref b, .int (nI L), .int (nI i), .int (optI none), .int kv, .int v1, .int v2, .int v3])), (b, .inl (g 0, 100, .inl tx))]) → va_S A s.heap H locs → lv_has ls 2 [(0, .ref a), (1, .int (nI k))] → W p l e rm_X2_syntaxError s m ([.ref a] : List Value).toArray below meth c H locs 0 0 Q (F0 m 6 ls []) := by
    intro fu_6
    induction fu_6 with
    | zero => intro i k kv v1 v2 v3 hi hk hpr hf_6; exact absurd hf_6 (Nat.not_lt_zero _)
    | succ fu_6 ih_6 =>
      intro i k kv v1 v2 v3 hi hk hpr hf_6 H locs ls hP hD hS hl
      refine lv_iload_n hx hb dX2_syntaxError_6 rfl (lv_at hl 1 rfl) ?_
      refine lv_bipush (v := 100) hx hb dX2_syntaxError_7 (by decide) ?_
      refine lv_icmp_ge (tgt := 25) hx hb dX2_syntaxError_9 (by decide) (fun c_9 => ?_) (fun c_9 => ?_)
      · skip
        refine lv_aload_n hx hb dX2_syntaxError_25 rfl (lv_at hl 0 rfl) ?_
        refine gf_X2_22 E hP 0 rfl rfl dX2_syntaxError_26 ?_
        exact g_iret hQ E M rfl hS hP hD (i, none, kv, v1, v2, v3) rfl ((have hq := prs_end hpr (nI_le_of c_9 (by decide) (by omega)); ⟨by rw [hq], hq.symm⟩)) dX2_syntaxError_29
      · skip
        have hkk : k < 100 := nI_nle_of c_9 (by decide) (by omega)
        refine lv_aload_n hx hb dX2_syntaxError_12 rfl (lv_at hl 0 rfl) ?_
        refine cl_X2_40 (As := []) (rest := []) (b := a) (wc := [(a, .inr (2, [.ref b, .int (nI L), .int (nI i), .int (optI none), .int kv, .int v1, .int v2, .int v3])), (b, .inl (g 0, 100, .inl tx))]) (wr := []) (wn := (fun (u : (Nat × Option Nat × Int32 × Int32 × Int32 × Int32)) => match u with | (i9_1, o9_2, k9_3, a9_4, b9_5, c9_6) => [(a, .inr (2, [.ref b, .int (nI L), .int (nI i9_1), .int (optI o9_2), .int k9_3, .int a9_4, .int b9_5, .int c9_6])), (b, .inl (g 0, 100, .inl tx))])) (isC := [0, 1]) (isR := []) (isP := [0, 1]) E hS hA hP hD ⟨rfl, rfl, rfl, rfl, by decide, fun _ => rfl, rfl⟩ (CX2_readOrder l D g _ a b L i kv v1 v2 v3 tx (by first | assumption | omega) (by repeat' (first | assumption | omega | apply nmF_le | apply skF_le | apply rdF_le | apply bdF_le))) ⟨Nat.le_of_ble_eq_true rfl, Nat.le_of_ble_eq_true rfl⟩ rfl rfl 0 rfl rfl hl.1 rfl (Nat.le_of_ble_eq_true rfl) ⟨Nat.le_of_ble_eq_true rfl, Nat.le_of_ble_eq_true rfl⟩ dX2_syntaxError_13 (fun r u H locs hw hP hD hS => ?_)
        obtain ⟨i9_1, o9_2, k9_3, a9_4, b9_5, c9_6⟩ := u
        dsimp only at hw hP hD
        have hP : va_P D vwCl ([(a, .inr (2, [.ref b, .int (nI L), .int (nI i9_1), .int (optI o9_2), .int k9_3, .int a9_4, .int b9_5, .int c9_6])), (b, .inl (g 0, 100, .inl tx))]) H := hP
        have hD : va_D A ([(a, .inr (2, [.ref b, .int (nI L), .int (nI i9_1), .int (optI o9_2), .int k9_3, .int a9_4, .int b9_5, .int c9_6])), (b, .inl (g 0, 100, .inl tx))]) := hD
        obtain ⟨r7, er7⟩ : ∃ z, z = r := ⟨_, rfl⟩
        rw [← er7] at hw ⊢; have hw8 := hw
        rcases hw8 with ⟨rfl, b_13⟩ | ⟨rfl, b_13⟩
        · skip
          obtain ⟨hlt, ho9, hi9, hr9, -, -⟩ := b_13
          have hro : (roF tx L i).2.1 = none := by rw [← hr9]; exact ho9
          subst ho9
          have hil : i9_1 ≤ L := by rw [hi9]; exact roF_le hlt
          refine lv_if_eq (tgt := 25) hx hb dX2_syntaxError_16 (by decide) (fun c_16 => ?_) (fun c_16 => ?_)
          · exact absurd c_16 (by decide)
          · skip
            refine lv_iinc (v := (nI (k + 1))) (lv' := [(1, .int (nI (k + 1))), (0, .ref a)]) hx hb dX2_syntaxError_19 hl (k := 1) rfl (by exact ix_add rfl rfl) (by decide) rfl (fun ls hl => ?_)
            refine lv_goto (tgt := 6) hx hb dX2_syntaxError_22 (by decide) ?_
            exact ih_6 i9_1 (k + 1) k9_3 a9_4 b9_5 c9_6 hil (by omega) (by rw [hi9]; exact prs_next hpr hkk hlt hro) (by omega) _ _ _ hP hD hS (lv_sub hl [1, 0] rfl)
        · skip
          have hq : o9_2 = prsN tx L 100 0 := b_13.elim (fun z => by rw [z.2.1, prs_stop hpr z.1]) (fun z => by obtain ⟨h1, h2, q, h3⟩ := z; rw [h3, prs_err hpr (nI_nle_of c_9 (by decide) (by omega)) h1 (by rw [← h2]; exact h3)])
          refine lv_if_eq (tgt := 25) hx hb dX2_syntaxError_16 (by decide) (fun c_16 => ?_) (fun c_16 => ?_)
          · skip
            refine lv_aload_n hx hb dX2_syntaxError_25 rfl (lv_at hl 0 rfl) ?_
            refine gf_X2_22 E hP 0 rfl rfl dX2_syntaxError_26 ?_
            exact g_iret hQ E M rfl hS hP hD (i9_1, o9_2, k9_3, a9_4, b9_5, c9_6) rfl (⟨by rw [hq], hq⟩) dX2_syntaxError_29
          · exact absurd c_16 (by decide)
  exact LOOP_6 (100 - 0 + 1) 0 0 kd f1 f2 f3 (Nat.zero_le _) (Nat.zero_le _) rfl (Nat.lt_succ_self _) _ _ _ hP hD hS (lv_sub hl [1, 0] rfl)
