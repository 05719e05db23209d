abbrev rm_X7_isRegion : Room := { frames := 0, cells := 0, slots := 0, locals := 0 }
set_option maxHeartbeats 600000 in
set_option maxRecDepth 100000 in
theorem CX7_isRegion (l : Launch) (D : va_G) (g : Nat → ClassId) (sz : Nat) (x : Int32) : Met l yX7_isRegion (Cond.code yX7_isRegion prog_1_method_28_code 1 (some .boolean) :: WA) rm_X7_isRegion (va_Pc [.int x] (Pre D g ([]) sz)) (va_Qi (fun (r : Int32) (_ : Unit) => (r = 1 ∧ ¬ x < 0 ∧ ¬ 24 ≤ x) ∨ (r = 0 ∧ ¬ (¬ x < 0 ∧ ¬ 24 ≤ x))) (fun (_ : Unit) t => Bp D g (va_A ([]) sz) ([]) t) (va_A ([]) sz)) 0 0 (va_A ([]) sz) := by
  refine g_met (av := [.int x]) (QcA := fun A => va_Qi (fun (r : Int32) (_ : Unit) => (r = 1 ∧ ¬ x < 0 ∧ ¬ 24 ≤ x) ∨ (r = 0 ∧ ¬ (¬ x < 0 ∧ ¬ 24 ≤ x))) (fun (_ : Unit) t => Bp D g A ([]) t) A) rfl (Nat.le_of_ble_eq_true rfl) ?_
  intro p e s m below meth c A Q ls E M hP hD hS hA hQ hl
  have hx := E.1.1
  have hb := E.1.2.1
  have hl : lv_has ls 1 [(0, .int x)] := hl
  refine lv_iload_n hx hb dX7_isRegion_0 rfl (lv_at hl 0 rfl) ?_
  refine lv_if_lt (tgt := 14) hx hb dX7_isRegion_1 (by decide) (fun c_1 => ?_) (fun c_1 => ?_)
  · skip
    refine lv_iconst (v := 0) hx hb dX7_isRegion_14 (by decide) ?_
    exact g_zret hQ E M rfl (Or.inl rfl) hS hP hD () rfl (Or.inr ⟨rfl, fun h => by first | exact h.1 c_1 | exact h.2 c_7⟩) dX7_isRegion_15
  · skip
    refine lv_iload_n hx hb dX7_isRegion_4 rfl (lv_at hl 0 rfl) ?_
    refine lv_bipush (v := 24) hx hb dX7_isRegion_5 (by decide) ?_
    refine lv_icmp_ge (tgt := 14) hx hb dX7_isRegion_7 (by decide) (fun c_7 => ?_) (fun c_7 => ?_)
    · skip
      refine lv_iconst (v := 0) hx hb dX7_isRegion_14 (by decide) ?_
      exact g_zret hQ E M rfl (Or.inl rfl) hS hP hD () rfl (Or.inr ⟨rfl, fun h => by first | exact h.1 c_1 | exact h.2 c_7⟩) dX7_isRegion_15
    · skip
      refine lv_iconst (v := 1) hx hb dX7_isRegion_10 (by decide) ?_
      refine lv_goto (tgt := 15) hx hb dX7_isRegion_11 (by decide) ?_
      exact g_zret hQ E M rfl (Or.inr rfl) hS hP hD () rfl (Or.inl ⟨rfl, ⟨c_1, c_7⟩⟩) dX7_isRegion_15
abbrev rm_X7_isSetting : Room := { frames := 0, cells := 0, slots := 0, locals := 0 }
set_option maxHeartbeats 600000 in
set_option maxRecDepth 100000 in
theorem CX7_isSetting (l : Launch) (D : va_G) (g : Nat → ClassId) (sz : Nat) (x : Int32) : Met l yX7_isSetting (Cond.code yX7_isSetting prog_1_method_29_code 1 (some .boolean) :: WA) rm_X7_isSetting (va_Pc [.int x] (Pre D g ([]) sz)) (va_Qi (fun (r : Int32) (_ : Unit) => (r = 1 ∧ ¬ x < 0 ∧ ¬ 5 ≤ x) ∨ (r = 0 ∧ ¬ (¬ x < 0 ∧ ¬ 5 ≤ x))) (fun (_ : Unit) t => Bp D g (va_A ([]) sz) ([]) t) (va_A ([]) sz)) 0 0 (va_A ([]) sz) := by
  refine g_met (av := [.int x]) (QcA := fun A => va_Qi (fun (r : Int32) (_ : Unit) => (r = 1 ∧ ¬ x < 0 ∧ ¬ 5 ≤ x) ∨ (r = 0 ∧ ¬ (¬ x < 0 ∧ ¬ 5 ≤ x))) (fun (_ : Unit) t => Bp D g A ([]) t) A) rfl (Nat.le_of_ble_eq_true rfl) ?_
  intro p e s m below meth c A Q ls E M hP hD hS hA hQ hl
  have hx := E.1.1
  have hb := E.1.2.1
  have hl : lv_has ls 1 [(0, .int x)] := hl
  refine lv_iload_n hx hb dX7_isSetting_0 rfl (lv_at hl 0 rfl) ?_
  refine lv_if_lt (tgt := 13) hx hb dX7_isSetting_1 (by decide) (fun c_1 => ?_) (fun c_1 => ?_)
  · skip
    refine lv_iconst (v := 0) hx hb dX7_isSetting_13 (by decide) ?_
    exact g_zret hQ E M rfl (Or.inl rfl) hS hP hD () rfl (Or.inr ⟨rfl, fun h => by first | exact h.1 c_1 | exact h.2 c_6⟩) dX7_isSetting_14
  · skip
    refine lv_iload_n hx hb dX7_isSetting_4 rfl (lv_at hl 0 rfl) ?_
    refine lv_iconst (v := 5) hx hb dX7_isSetting_5 (by decide) ?_
    refine lv_icmp_ge (tgt := 13) hx hb dX7_isSetting_6 (by decide) (fun c_6 => ?_) (fun c_6 => ?_)
    · skip
      refine lv_iconst (v := 0) hx hb dX7_isSetting_13 (by decide) ?_
      exact g_zret hQ E M rfl (Or.inl rfl) hS hP hD () rfl (Or.inr ⟨rfl, fun h => by first | exact h.1 c_1 | exact h.2 c_6⟩) dX7_isSetting_14
    · skip
      refine lv_iconst (v := 1) hx hb dX7_isSetting_9 (by decide) ?_
      refine lv_goto (tgt := 14) hx hb dX7_isSetting_10 (by decide) ?_
      exact g_zret hQ E M rfl (Or.inr rfl) hS hP hD () rfl (Or.inl ⟨rfl, ⟨c_1, c_6⟩⟩) dX7_isSetting_14
abbrev rm_X7_isBend : Room := { frames := 0, cells := 0, slots := 0, locals := 0 }
set_option maxHeartbeats 600000 in
set_option maxRecDepth 100000 in
theorem CX7_isBend (l : Launch) (D : va_G) (g : Nat → ClassId) (sz : Nat) (x z : Int32) : Met l yX7_isBend (Cond.code yX7_isBend prog_1_method_30_code 2 (some .boolean) :: WA) rm_X7_isBend (va_Pc [.int x, .int z] (Pre D g ([]) sz)) (va_Qi (fun (r : Int32) (_ : Unit) => (r = 1 ∧ (¬ x < 0 ∧ ¬ 2 ≤ x) ∧ ¬ z < 0 ∧ ¬ 4 ≤ z) ∨ (r = 0 ∧ ¬ ((¬ x < 0 ∧ ¬ 2 ≤ x) ∧ ¬ z < 0 ∧ ¬ 4 ≤ z))) (fun (_ : Unit) t => Bp D g (va_A ([]) sz) ([]) t) (va_A ([]) sz)) 0 0 (va_A ([]) sz) := by
  refine g_met (av := [.int x, .int z]) (QcA := fun A => va_Qi (fun (r : Int32) (_ : Unit) => (r = 1 ∧ (¬ x < 0 ∧ ¬ 2 ≤ x) ∧ ¬ z < 0 ∧ ¬ 4 ≤ z) ∨ (r = 0 ∧ ¬ ((¬ x < 0 ∧ ¬ 2 ≤ x) ∧ ¬ z < 0 ∧ ¬ 4 ≤ z))) (fun (_ : Unit) t => Bp D g A ([]) t) A) rfl (Nat.le_of_ble_eq_true rfl) ?_
  intro p e s m below meth c A Q ls E M hP hD hS hA hQ hl
  have hx := E.1.1
  have hb := E.1.2.1
  have hl : lv_has ls 2 [(0, .int x), (1, .int z)] := hl
  refine lv_iload_n hx hb dX7_isBend_0 rfl (lv_at hl 0 rfl) ?_
  refine lv_if_lt (tgt := 22) hx hb dX7_isBend_1 (by decide) (fun c_1 => ?_) (fun c_1 => ?_)
  · skip
    refine lv_iconst (v := 0) hx hb dX7_isBend_22 (by decide) ?_
    exact g_zret hQ E M rfl (Or.inl rfl) hS hP hD () rfl (Or.inr ⟨rfl, fun h => by first | exact h.1.1 c_1 | exact h.1.2 c_6 | exact h.2.1 c_10 | exact h.2.2 c_15⟩) dX7_isBend_23
  · skip
    refine lv_iload_n hx hb dX7_isBend_4 rfl (lv_at hl 0 rfl) ?_
    refine lv_iconst (v := 2) hx hb dX7_isBend_5 (by decide) ?_
    refine lv_icmp_ge (tgt := 22) hx hb dX7_isBend_6 (by decide) (fun c_6 => ?_) (fun c_6 => ?_)
    · skip
      refine lv_iconst (v := 0) hx hb dX7_isBend_22 (by decide) ?_
      exact g_zret hQ E M rfl (Or.inl rfl) hS hP hD () rfl (Or.inr ⟨rfl, fun h => by first | exact h.1.1 c_1 | exact h.1.2 c_6 | exact h.2.1 c_10 | exact h.2.2 c_15⟩) dX7_isBend_23
    · skip
      refine lv_iload_n hx hb dX7_isBend_9 rfl (lv_at hl 1 rfl) ?_
      refine lv_if_lt (tgt := 22) hx hb dX7_isBend_10 (by decide) (fun c_10 => ?_) (fun c_10 => ?_)
      · skip
        refine lv_iconst (v := 0) hx hb dX7_isBend_22 (by decide) ?_
        exact g_zret hQ E M rfl (Or.inl rfl) hS hP hD () rfl (Or.inr ⟨rfl, fun h => by first | exact h.1.1 c_1 | exact h.1.2 c_6 | exact h.2.1 c_10 | exact h.2.2 c_15⟩) dX7_isBend_23
      · skip
        refine lv_iload_n hx hb dX7_isBend_13 rfl (lv_at hl 1 rfl) ?_
        refine lv_iconst (v := 4) hx hb dX7_isBend_14 (by decide) ?_
        refine lv_icmp_ge (tgt := 22) hx hb dX7_isBend_15 (by decide) (fun c_15 => ?_) (fun c_15 => ?_)
        · skip
          refine lv_iconst (v := 0) hx hb dX7_isBend_22 (by decide) ?_
          exact g_zret hQ E M rfl (Or.inl rfl) hS hP hD () rfl (Or.inr ⟨rfl, fun h => by first | exact h.1.1 c_1 | exact h.1.2 c_6 | exact h.2.1 c_10 | exact h.2.2 c_15⟩) dX7_isBend_23
        · skip
          refine lv_iconst (v := 1) hx hb dX7_isBend_18 (by decide) ?_
          refine lv_goto (tgt := 23) hx hb dX7_isBend_19 (by decide) ?_
          exact g_zret hQ E M rfl (Or.inr rfl) hS hP hD () rfl (Or.inl ⟨rfl, ⟨⟨c_1, c_6⟩, c_10, c_15⟩⟩) dX7_isBend_23
abbrev rm_X7_bendIndex : Room := { frames := 0, cells := 0, slots := 0, locals := 0 }
set_option maxHeartbeats 600000 in
set_option maxRecDepth 100000 in
theorem CX7_bendIndex (l : Launch) (D : va_G) (g : Nat → ClassId) (sz : Nat) (x z : Int32) : Met l yX7_bendIndex (Cond.code yX7_bendIndex prog_1_method_31_code 2 (some .int) :: WA) rm_X7_bendIndex (va_Pc [.int x, .int z] (Pre D g ([]) sz)) (va_Qi (fun (r : Int32) (_ : Unit) => r = (4 * x + z)) (fun (_ : Unit) t => Bp D g (va_A ([]) sz) ([]) t) (va_A ([]) sz)) 0 0 (va_A ([]) sz) := by
  refine g_met (av := [.int x, .int z]) (QcA := fun A => va_Qi (fun (r : Int32) (_ : Unit) => r = (4 * x + z)) (fun (_ : Unit) t => Bp D g A ([]) t) A) rfl (Nat.le_of_ble_eq_true rfl) ?_
  intro p e s m below meth c A Q ls E M hP hD hS hA hQ hl
  have hx := E.1.1
  have hb := E.1.2.1
  have hl : lv_has ls 2 [(0, .int x), (1, .int z)] := hl
  refine lv_iconst (v := 4) hx hb dX7_bendIndex_0 (by decide) ?_
  refine lv_iload_n hx hb dX7_bendIndex_1 rfl (lv_at hl 0 rfl) ?_
  refine lv_imul hx hb dX7_bendIndex_2 ?_
  refine lv_iload_n hx hb dX7_bendIndex_3 rfl (lv_at hl 1 rfl) ?_
  refine lv_iadd hx hb dX7_bendIndex_4 ?_
  exact g_iret hQ E M rfl hS hP hD () rfl (rfl) dX7_bendIndex_5
abbrev rm_X7_withoutSign : Room := { frames := 0, cells := 0, slots := 0, locals := 0 }
set_option maxHeartbeats 600000 in
set_option maxRecDepth 100000 in
theorem CX7_withoutSign (l : Launch) (D : va_G) (g : Nat → ClassId) (sz : Nat) (x : UInt64) : Met l yX7_withoutSign (Cond.code yX7_withoutSign prog_1_method_41_code 2 (some .double) :: WA) rm_X7_withoutSign (va_Pc [.double x] (Pre D g ([]) sz)) (va_Qd (fun (r : UInt64) (_ : Unit) => r = (absF x)) (fun (_ : Unit) t => Bp D g (va_A ([]) sz) ([]) t) (va_A ([]) sz)) 0 0 (va_A ([]) sz) := by
  refine g_met (av := [.double x]) (QcA := fun A => va_Qd (fun (r : UInt64) (_ : Unit) => r = (absF x)) (fun (_ : Unit) t => Bp D g A ([]) t) A) rfl (Nat.le_of_ble_eq_true rfl) ?_
  intro p e s m below meth c A Q ls E M hP hD hS hA hQ hl
  have hx := E.1.1
  have hb := E.1.2.1
  have hl : lv_has ls 2 [(0, .double x)] := hl
  refine lv_dload_n hx hb dX7_withoutSign_0 rfl (lv_at hl 0 rfl) ?_
  refine lv_dconst0 hx hb dX7_withoutSign_1 ?_
  refine lv_dcmp hx hb dX7_withoutSign_2 ?_
  refine lv_if_ge (tgt := 11) hx hb dX7_withoutSign_3 (by decide) (fun c_3 => ?_) (fun c_3 => ?_)
  · skip
    refine lv_dload_n hx hb dX7_withoutSign_11 rfl (lv_at hl 0 rfl) ?_
    have hL : (x : UInt64) = (absF x) := by simp only [absF, if_pos c_3]
    exact g_dret hQ E M rfl hS hP hD () rfl (hL) dX7_withoutSign_12
  · skip
    refine lv_dload_n hx hb dX7_withoutSign_6 rfl (lv_at hl 0 rfl) ?_
    refine lv_dneg hx hb dX7_withoutSign_7 ?_
    refine lv_goto (tgt := 12) hx hb dX7_withoutSign_8 (by decide) ?_
    have hL : ((FP.dneg x) : UInt64) = (absF x) := by simp only [absF, if_neg c_3]
    exact g_dret hQ E M rfl hS hP hD () rfl (hL) dX7_withoutSign_12
abbrev rm_X7_dividedUp : Room := { frames := 0, cells := 0, slots := 0, locals := 0 }
set_option maxHeartbeats 600000 in
set_option maxRecDepth 100000 in
theorem CX7_dividedUp (l : Launch) (D : va_G) (g : Nat → ClassId) (sz : Nat) (x z : Int32) : Met l yX7_dividedUp (Cond.code yX7_dividedUp prog_1_method_43_code 2 (some .int) :: WA) rm_X7_dividedUp (va_Pc [.int x, .int z] (Pre D g ([]) sz)) (va_Qi (fun (r : Int32) (_ : Unit) => r = (divUp x z)) (fun (_ : Unit) t => Bp D g (va_A ([]) sz) ([]) t) (va_A ([]) sz)) 0 0 (va_A ([]) sz) := by
  refine g_met (av := [.int x, .int z]) (QcA := fun A => va_Qi (fun (r : Int32) (_ : Unit) => r = (divUp x z)) (fun (_ : Unit) t => Bp D g A ([]) t) A) rfl (Nat.le_of_ble_eq_true rfl) ?_
  intro p e s m below meth c A Q ls E M hP hD hS hA hQ hl
  have hx := E.1.1
  have hb := E.1.2.1
  have hl : lv_has ls 2 [(0, .int x), (1, .int z)] := hl
  refine lv_iload_n hx hb dX7_dividedUp_0 rfl (lv_at hl 1 rfl) ?_
  refine lv_iconst (v := 1) hx hb dX7_dividedUp_1 (by decide) ?_
  refine lv_icmp_ge (tgt := 9) hx hb dX7_dividedUp_2 (by decide) (fun c_2 => ?_) (fun c_2 => ?_)
  · skip
    refine lv_iload_n hx hb dX7_dividedUp_9 rfl (lv_at hl 0 rfl) ?_
    refine lv_iload_n hx hb dX7_dividedUp_10 rfl (lv_at hl 1 rfl) ?_
    refine lv_iadd hx hb dX7_dividedUp_11 ?_
    refine lv_iconst (v := 1) hx hb dX7_dividedUp_12 (by decide) ?_
    refine lv_isub hx hb dX7_dividedUp_13 ?_
    refine lv_iload_n hx hb dX7_dividedUp_14 rfl (lv_at hl 1 rfl) ?_
    refine lv_idiv hx hb dX7_dividedUp_15 (ne0_of_1le c_2) ?_
    have hL : ((((x + z) - 1) / z) : Int32) = (divUp x z) := by simp only [divUp, if_pos c_2]
    exact g_iret hQ E M rfl hS hP hD () rfl (hL) dX7_dividedUp_16
  · skip
    refine lv_iconst (v := 0) hx hb dX7_dividedUp_5 (by decide) ?_
    refine lv_goto (tgt := 16) hx hb dX7_dividedUp_6 (by decide) ?_
    have hL : (0 : Int32) = (divUp x z) := by simp only [divUp, if_neg c_2]
    exact g_iret hQ E M rfl hS hP hD () rfl (hL) dX7_dividedUp_16
abbrev rm_X7_nearestTurn : Room := { frames := 1, cells := 0, slots := 0, locals := 21 }
set_option maxHeartbeats 600000 in
set_option maxRecDepth 100000 in
theorem CX7_nearestTurn (l : Launch) (D : va_G) (g : Nat → ClassId) (sz : Nat) (t x : Int32) : Met l yX7_nearestTurn (Cond.code yX7_nearestTurn prog_1_method_44_code 3 (some .int) :: WA) rm_X7_nearestTurn (va_Pc [.int t, .int x] (Pre D g ([]) sz)) (va_Qi (fun (r : Int32) (_ : Unit) => r = (ntF t x)) (fun (_ : Unit) t => Bp D g (va_A ([]) sz) ([]) t) (va_A ([]) sz)) 0 0 (va_A ([]) sz) := by
  refine g_met (av := [.int t, .int x]) (QcA := fun A => va_Qi (fun (r : Int32) (_ : Unit) => r = (ntF t x)) (fun (_ : Unit) t => Bp D g A ([]) t) A) rfl (Nat.le_of_ble_eq_true rfl) ?_
  intro p e s m below meth c A Q ls E M hP hD hS hA hQ hl
  have hx := E.1.1
  have hb := E.1.2.1
  have hl : lv_has ls 3 [(0, .int t), (1, .int x)] := hl
  refine lv_iload_n hx hb dX7_nearestTurn_0 rfl (lv_at hl 1 rfl) ?_
  refine lv_sipush (v := 21600) hx hb dX7_nearestTurn_1 (by decide) ?_
  refine lv_isub hx hb dX7_nearestTurn_4 ?_
  refine lv_istore_n (lv' := [(2, .int (x - 21600)), (0, .int t), (1, .int x)]) hx hb dX7_nearestTurn_5 rfl hl (by decide) rfl (fun ls hl => ?_)
  refine lv_iload_n hx hb dX7_nearestTurn_6 rfl (lv_at hl 0 rfl) ?_
  refine lv_sipush (v := (-16200)) hx hb dX7_nearestTurn_7 (by decide) ?_
  refine lv_icmp_ge (tgt := 15) hx hb dX7_nearestTurn_10 (by decide) (fun c_10 => ?_) (fun c_10 => ?_)
  · skip
    refine lv_iload_n hx hb dX7_nearestTurn_15 rfl (lv_at hl 2 rfl) ?_
    refine lv_sipush (v := 16200) hx hb dX7_nearestTurn_16 (by decide) ?_
    refine lv_icmp_le (tgt := 24) hx hb dX7_nearestTurn_19 (by decide) (fun c_19 => ?_) (fun c_19 => ?_)
    · skip
      refine lv_iload_n hx hb dX7_nearestTurn_24 rfl (lv_at hl 2 rfl) ?_
      refine lv_iload_n hx hb dX7_nearestTurn_25 rfl (lv_at hl 1 rfl) ?_
      refine lv_isub hx hb dX7_nearestTurn_26 ?_
      refine gm_X7_306 E hl.1.symm (Nat.le_of_ble_eq_true rfl) (Nat.le_of_ble_eq_true rfl) (Nat.zero_le _) (Nat.zero_le _) dX7_nearestTurn_27 ?_
      refine g_top (w := .int (absI (x - t))) rfl ?_
      refine lv_iload_n hx hb dX7_nearestTurn_30 rfl (lv_at hl 0 rfl) ?_
      refine lv_iload_n hx hb dX7_nearestTurn_31 rfl (lv_at hl 1 rfl) ?_
      refine lv_isub hx hb dX7_nearestTurn_32 ?_
      refine gm_X7_306 E hl.1.symm (Nat.le_of_ble_eq_true rfl) (Nat.le_of_ble_eq_true rfl) (Nat.zero_le _) (Nat.zero_le _) dX7_nearestTurn_33 ?_
      refine g_top (w := .int (absI ((x - 21600) - t))) rfl ?_
      refine lv_icmp_ge (tgt := 43) hx hb dX7_nearestTurn_36 (by decide) (fun c_36 => ?_) (fun c_36 => ?_)
      · skip
        refine lv_iload_n hx hb dX7_nearestTurn_43 rfl (lv_at hl 0 rfl) ?_
        have hL : ((x - 21600) : Int32) = (ntF t x) := by simp only [ntF, if_pos c_10, if_pos c_19, if_pos c_36]
        exact g_iret hQ E M rfl hS hP hD () rfl (hL) dX7_nearestTurn_44
      · skip
        refine lv_iload_n hx hb dX7_nearestTurn_39 rfl (lv_at hl 2 rfl) ?_
        refine lv_goto (tgt := 44) hx hb dX7_nearestTurn_40 (by decide) ?_
        have hL : (x : Int32) = (ntF t x) := by simp only [ntF, if_pos c_10, if_pos c_19, if_neg c_36]
        exact g_iret hQ E M rfl hS hP hD () rfl (hL) dX7_nearestTurn_44
    · skip
      refine lv_iload_n hx hb dX7_nearestTurn_22 rfl (lv_at hl 0 rfl) ?_
      have hL : ((x - 21600) : Int32) = (ntF t x) := by simp only [ntF, if_pos c_10, if_neg c_19]
      exact g_iret hQ E M rfl hS hP hD () rfl (hL) dX7_nearestTurn_23
  · skip
    refine lv_iload_n hx hb dX7_nearestTurn_13 rfl (lv_at hl 2 rfl) ?_
    have hL : (x : Int32) = (ntF t x) := by simp only [ntF, if_neg c_10]
    exact g_iret hQ E M rfl hS hP hD () rfl (hL) dX7_nearestTurn_14
abbrev rm_X7_rounded : Room := { frames := 0, cells := 0, slots := 0, locals := 0 }
set_option maxHeartbeats 600000 in
set_option maxRecDepth 100000 in
theorem CX7_rounded (l : Launch) (D : va_G) (g : Nat → ClassId) (sz : Nat) (x : UInt64) (hx : vf_n64 (FP.dadd x 4602678819172646912)) (hy : vf_n64 (FP.dsub 4602678819172646912 x)) : Met l yX7_rounded (Cond.code yX7_rounded prog_1_method_42_code 2 (some .int) :: WA) rm_X7_rounded (va_Pc [.double x] (Pre D g ([]) sz)) (va_Qi (fun (r : Int32) (_ : Unit) => r = (rndF x)) (fun (_ : Unit) t => Bp D g (va_A ([]) sz) ([]) t) (va_A ([]) sz)) 0 0 (va_A ([]) sz) := by
  refine g_met (av := [.double x]) (QcA := fun A => va_Qi (fun (r : Int32) (_ : Unit) => r = (rndF x)) (fun (_ : Unit) t => Bp D g A ([]) t) A) rfl (Nat.le_of_ble_eq_true rfl) ?_
  intro p e s m below meth c A Q ls E M hP hD hS hA hQ hl
  have hx := E.1.1
  have hb := E.1.2.1
  have hl : lv_has ls 2 [(0, .double x)] := hl
  refine lv_dload_n hx hb dX7_rounded_0 rfl (lv_at hl 0 rfl) ?_
  refine lv_dconst0 hx hb dX7_rounded_1 ?_
  refine lv_dcmp hx hb dX7_rounded_2 ?_
  refine lv_if_lt (tgt := 15) hx hb dX7_rounded_3 (by decide) (fun c_3 => ?_) (fun c_3 => ?_)
  · skip
    refine gk_X7_304 E dX7_rounded_15 ?_
    refine lv_dload_n hx hb dX7_rounded_18 rfl (lv_at hl 0 rfl) ?_
    refine lv_dsub hx hb dX7_rounded_19 (by assumption) ?_
    refine lv_d2i hx hb dX7_rounded_20 ?_
    refine lv_ineg hx hb dX7_rounded_21 ?_
    have hL : ((-(FP.d2i (FP.dsub 4602678819172646912 x))) : Int32) = (rndF x) := by simp only [rndF, if_pos c_3]
    exact g_iret hQ E M rfl hS hP hD () rfl (hL) dX7_rounded_22
  · skip
    refine lv_dload_n hx hb dX7_rounded_6 rfl (lv_at hl 0 rfl) ?_
    refine gk_X7_304 E dX7_rounded_7 ?_
    refine lv_dadd hx hb dX7_rounded_10 (by assumption) ?_
    refine lv_d2i hx hb dX7_rounded_11 ?_
    refine lv_goto (tgt := 22) hx hb dX7_rounded_12 (by decide) ?_
    have hL : ((FP.d2i (FP.dadd x 4602678819172646912)) : Int32) = (rndF x) := by simp only [rndF, if_neg c_3]
    exact g_iret hQ E M rfl hS hP hD () rfl (hL) dX7_rounded_22
abbrev rm_X1_copyFrom : Room := { frames := 0, cells := 0, slots := 0, locals := 0 }
set_option maxHeartbeats 600000 in
set_option maxRecDepth 100000 in
theorem CX1_copyFrom (l : Launch) (D : va_G) (g : Nat → ClassId) (sz : Nat) (a b : Nat) (xt xh xd yt yh yd : Int32) : Met l yX1_copyFrom (Cond.code yX1_copyFrom prog_3_method_2_code 2 none :: WA) rm_X1_copyFrom (va_Pc [.ref a, .ref b] (Pre D g ([(a, .inr (1, [.int xt, .int xh, .int xd])), (b, .inr (1, [.int yt, .int yh, .int yd]))]) sz)) (va_Qv (fun (_ : Unit) => True) (fun (_ : Unit) t => Bp D g (va_A ([(a, .inr (1, [.int xt, .int xh, .int xd])), (b, .inr (1, [.int yt, .int yh, .int yd]))]) sz) ([(a, .inr (1, [.int yt, .int yh, .int yd])), (b, .inr (1, [.int yt, .int yh, .int yd]))]) t) (va_A ([(a, .inr (1, [.int xt, .int xh, .int xd])), (b, .inr (1, [.int yt, .int yh, .int yd]))]) sz)) 0 0 (va_A ([(a, .inr (1, [.int xt, .int xh, .int xd])), (b, .inr (1, [.int yt, .int yh, .int yd]))]) sz) := by
  refine g_met (av := [.ref a, .ref b]) (QcA := fun A => va_Qv (fun (_ : Unit) => True) (fun (_ : Unit) t => Bp D g A ([(a, .inr (1, [.int yt, .int yh, .int yd])), (b, .inr (1, [.int yt, .int yh, .int yd]))]) t) A) rfl (Nat.le_of_ble_eq_true rfl) ?_
  intro p e s m below meth c A Q ls E M hP hD hS hA hQ hl
  have hx := E.1.1
  have hb := E.1.2.1
  have hl : lv_has ls 2 [(0, .ref a), (1, .ref b)] := hl
  refine lv_aload_n hx hb dX1_copyFrom_0 rfl (lv_at hl 0 rfl) ?_
  refine lv_aload_n hx hb dX1_copyFrom_1 rfl (lv_at hl 1 rfl) ?_
  refine gf_X1_9 E hP 1 rfl rfl dX1_copyFrom_2 ?_
  refine gp_X1_9 E hP hD hS 0 rfl rfl rfl (Nat.le_of_ble_eq_true rfl) dX1_copyFrom_5 (fun H locs hP hD hS => ?_)
  have hP : va_P D vwCl ([(a, .inr (1, [.int yt, .int xh, .int xd])), (b, .inr (1, [.int yt, .int yh, .int yd]))]) H := hP
  have hD : va_D A ([(a, .inr (1, [.int yt, .int xh, .int xd])), (b, .inr (1, [.int yt, .int yh, .int yd]))]) := hD
  refine lv_aload_n hx hb dX1_copyFrom_8 rfl (lv_at hl 0 rfl) ?_
  refine lv_aload_n hx hb dX1_copyFrom_9 rfl (lv_at hl 1 rfl) ?_
  refine gf_X1_15 E hP 1 rfl rfl dX1_copyFrom_10 ?_
  refine gp_X1_15 E hP hD hS 0 rfl rfl rfl (Nat.le_of_ble_eq_true rfl) dX1_copyFrom_13 (fun H locs hP hD hS => ?_)
  have hP : va_P D vwCl ([(a, .inr (1, [.int yt, .int yh, .int xd])), (b, .inr (1, [.int yt, .int yh, .int yd]))]) H := hP
  have hD : va_D A ([(a, .inr (1, [.int yt, .int yh, .int xd])), (b, .inr (1, [.int yt, .int yh, .int yd]))]) := hD
  refine lv_aload_n hx hb dX1_copyFrom_16 rfl (lv_at hl 0 rfl) ?_
  refine lv_aload_n hx hb dX1_copyFrom_17 rfl (lv_at hl 1 rfl) ?_
  refine gf_X1_18 E hP 1 rfl rfl dX1_copyFrom_18 ?_
  refine gp_X1_18 E hP hD hS 0 rfl rfl rfl (Nat.le_of_ble_eq_true rfl) dX1_copyFrom_21 (fun H locs hP hD hS => ?_)
  have hP : va_P D vwCl ([(a, .inr (1, [.int yt, .int yh, .int yd])), (b, .inr (1, [.int yt, .int yh, .int yd]))]) H := hP
  have hD : va_D A ([(a, .inr (1, [.int yt, .int yh, .int yd])), (b, .inr (1, [.int yt, .int yh, .int yd]))]) := hD
  exact g_vret hQ E M rfl hS hP hD () rfl (trivial) dX1_copyFrom_24
abbrev rm_X0_copyFrom : Room := { frames := 0, cells := 0, slots := 0, locals := 0 }
set_option maxHeartbeats 600000 in
set_option maxRecDepth 100000 in
theorem CX0_copyFrom (l : Launch) (D : va_G) (g : Nat → ClassId) (sz : Nat) (a b : Nat) (xs xd xr xz xh xl : Int32) (xha xhh xma xmh : UInt64) (ys yd yr yz yh yl : Int32) (yha yhh yma ymh : UInt64) (hyl : yl = 0 ∨ yl = 1) : Met l yX0_copyFrom (Cond.code yX0_copyFrom prog_2_method_2_code 2 none :: WA) rm_X0_copyFrom (va_Pc [.ref a, .ref b] (Pre D g ([(a, .inr (0, [.int xs, .int xd, .int xr, .int xz, .int xh, .double xha, .double xhh, .double xma, .double xmh, .int xl])), (b, .inr (0, [.int ys, .int yd, .int yr, .int yz, .int yh, .double yha, .double yhh, .double yma, .double ymh, .int yl]))]) sz)) (va_Qv (fun (_ : Unit) => True) (fun (_ : Unit) t => Bp D g (va_A ([(a, .inr (0, [.int xs, .int xd, .int xr, .int xz, .int xh, .double xha, .double xhh, .double xma, .double xmh, .int xl])), (b, .inr (0, [.int ys, .int yd, .int yr, .int yz, .int yh, .double yha, .double yhh, .double yma, .double ymh, .int yl]))]) sz) ([(a, .inr (0, [.int ys, .int yd, .int yr, .int yz, .int yh, .double yha, .double yhh, .double yma, .double ymh, .int yl])), (b, .inr (0, [.int ys, .int yd, .int yr, .int yz, .int yh, .double yha, .double yhh, .double yma, .double ymh, .int yl]))]) t) (va_A ([(a, .inr (0, [.int xs, .int xd, .int xr, .int xz, .int xh, .double xha, .double xhh, .double xma, .double xmh, .int xl])), (b, .inr (0, [.int ys, .int yd, .int yr, .int yz, .int yh, .double yha, .double yhh, .double yma, .double ymh, .int yl]))]) sz)) 0 0 (va_A ([(a, .inr (0, [.int xs, .int xd, .int xr, .int xz, .int xh, .double xha, .double xhh, .double xma, .double xmh, .int xl])), (b, .inr (0, [.int ys, .int yd, .int yr, .int yz, .int yh, .double yha, .double yhh, .double yma, .double ymh, .int yl]))]) sz) := by
  refine g_met (av := [.ref a, .ref b]) (QcA := fun A => va_Qv (fun (_ : Unit) => True) (fun (_ : Unit) t => Bp D g A ([(a, .inr (0, [.int ys, .int yd, .int yr, .int yz, .int yh, .double yha, .double yhh, .double yma, .double ymh, .int yl])), (b, .inr (0, [.int ys, .int yd, .int yr, .int yz, .int yh, .double yha, .double yhh, .double yma, .double ymh, .int yl]))]) t) A) rfl (Nat.le_of_ble_eq_true rfl) ?_
  intro p e s m below meth c A Q ls E M hP hD hS hA hQ hl
  have hx := E.1.1
  have hb := E.1.2.1
  have hl : lv_has ls 2 [(0, .ref a), (1, .ref b)] := hl
  refine lv_aload_n hx hb dX0_copyFrom_0 rfl (lv_at hl 0 rfl) ?_
  refine lv_aload_n hx hb dX0_copyFrom_1 rfl (lv_at hl 1 rfl) ?_
  refine gf_X0_9 E hP 1 rfl rfl dX0_copyFrom_2 ?_
  refine gp_X0_9 E hP hD hS 0 rfl rfl rfl (Nat.le_of_ble_eq_true rfl) dX0_copyFrom_5 (fun H locs hP hD hS => ?_)
  have hP : va_P D vwCl ([(a, .inr (0, [.int ys, .int xd, .int xr, .int xz, .int xh, .double xha, .double xhh, .double xma, .double xmh, .int xl])), (b, .inr (0, [.int ys, .int yd, .int yr, .int yz, .int yh, .double yha, .double yhh, .double yma, .double ymh, .int yl]))]) H := hP
  have hD : va_D A ([(a, .inr (0, [.int ys, .int xd, .int xr, .int xz, .int xh, .double xha, .double xhh, .double xma, .double xmh, .int xl])), (b, .inr (0, [.int ys, .int yd, .int yr, .int yz, .int yh, .double yha, .double yhh, .double yma, .double ymh, .int yl]))]) := hD
  refine lv_aload_n hx hb dX0_copyFrom_8 rfl (lv_at hl 0 rfl) ?_
  refine lv_aload_n hx hb dX0_copyFrom_9 rfl (lv_at hl 1 rfl) ?_
  refine gf_X0_15 E hP 1 rfl rfl dX0_copyFrom_10 ?_
  refine gp_X0_15 E hP hD hS 0 rfl rfl rfl (Nat.le_of_ble_eq_true rfl) dX0_copyFrom_13 (fun H locs hP hD hS => ?_)
  have hP : va_P D vwCl ([(a, .inr (0, [.int ys, .int yd, .int xr, .int xz, .int xh, .double xha, .double xhh, .double xma, .double xmh, .int xl])), (b, .inr (0, [.int ys, .int yd, .int yr, .int yz, .int yh, .double yha, .double yhh, .double yma, .double ymh, .int yl]))]) H := hP
  have hD : va_D A ([(a, .inr (0, [.int ys, .int yd, .int xr, .int xz, .int xh, .double xha, .double xhh, .double xma, .double xmh, .int xl])), (b, .inr (0, [.int ys, .int yd, .int yr, .int yz, .int yh, .double yha, .double yhh, .double yma, .double ymh, .int yl]))]) := hD
  refine lv_aload_n hx hb dX0_copyFrom_16 rfl (lv_at hl 0 rfl) ?_
  refine lv_aload_n hx hb dX0_copyFrom_17 rfl (lv_at hl 1 rfl) ?_
  refine gf_X0_18 E hP 1 rfl rfl dX0_copyFrom_18 ?_
  refine gp_X0_18 E hP hD hS 0 rfl rfl rfl (Nat.le_of_ble_eq_true rfl) dX0_copyFrom_21 (fun H locs hP hD hS => ?_)
  have hP : va_P D vwCl ([(a, .inr (0, [.int ys, .int yd, .int yr, .int xz, .int xh, .double xha, .double xhh, .double xma, .double xmh, .int xl])), (b, .inr (0, [.int ys, .int yd, .int yr, .int yz, .int yh, .double yha, .double yhh, .double yma, .double ymh, .int yl]))]) H := hP
  have hD : va_D A ([(a, .inr (0, [.int ys, .int yd, .int yr, .int xz, .int xh, .double xha, .double xhh, .double xma, .double xmh, .int xl])), (b, .inr (0, [.int ys, .int yd, .int yr, .int yz, .int yh, .double yha, .double yhh, .double yma, .double ymh, .int yl]))]) := hD
  refine lv_aload_n hx hb dX0_copyFrom_24 rfl (lv_at hl 0 rfl) ?_
  refine lv_aload_n hx hb dX0_copyFrom_25 rfl (lv_at hl 1 rfl) ?_
  refine gf_X0_21 E hP 1 rfl rfl dX0_copyFrom_26 ?_
  refine gp_X0_21 E hP hD hS 0 rfl rfl rfl (Nat.le_of_ble_eq_true rfl) dX0_copyFrom_29 (fun H locs hP hD hS => ?_)
  have hP : va_P D vwCl ([(a, .inr (0, [.int ys, .int yd, .int yr, .int yz, .int xh, .double xha, .double xhh, .double xma, .double xmh, .int xl])), (b, .inr (0, [.int ys, .int yd, .int yr, .int yz, .int yh, .double yha, .double yhh, .double yma, .double ymh, .int yl]))]) H := hP
  have hD : va_D A ([(a, .inr (0, [.int ys, .int yd, .int yr, .int yz, .int xh, .double xha, .double xhh, .double xma, .double xmh, .int xl])), (b, .inr (0, [.int ys, .int yd, .int yr, .int yz, .int yh, .double yha, .double yhh, .double yma, .double ymh, .int yl]))]) := hD
  refine lv_aload_n hx hb dX0_copyFrom_32 rfl (lv_at hl 0 rfl) ?_
  refine lv_aload_n hx hb dX0_copyFrom_33 rfl (lv_at hl 1 rfl) ?_
  refine gf_X0_24 E hP 1 rfl rfl dX0_copyFrom_34 ?_
  refine gp_X0_24 E hP hD hS 0 rfl rfl rfl (Nat.le_of_ble_eq_true rfl) dX0_copyFrom_37 (fun H locs hP hD hS => ?_)
  have hP : va_P D vwCl ([(a, .inr (0, [.int ys, .int yd, .int yr, .int yz, .int yh, .double xha, .double xhh, .double xma, .double xmh, .int xl])), (b, .inr (0, [.int ys, .int yd, .int yr, .int yz, .int yh, .double yha, .double yhh, .double yma, .double ymh, .int yl]))]) H := hP
  have hD : va_D A ([(a, .inr (0, [.int ys, .int yd, .int yr, .int yz, .int yh, .double xha, .double xhh, .double xma, .double xmh, .int xl])), (b, .inr (0, [.int ys, .int yd, .int yr, .int yz, .int yh, .double yha, .double yhh, .double yma, .double ymh, .int yl]))]) := hD
  refine lv_aload_n hx hb dX0_copyFrom_40 rfl (lv_at hl 0 rfl) ?_
  refine lv_aload_n hx hb dX0_copyFrom_41 rfl (lv_at hl 1 rfl) ?_
  refine gf_X0_27 E hP 1 rfl rfl dX0_copyFrom_42 ?_
  refine gp_X0_27 E hP hD hS 0 rfl rfl rfl (Nat.le_of_ble_eq_true rfl) dX0_copyFrom_45 (fun H locs hP hD hS => ?_)
  have hP : va_P D vwCl ([(a, .inr (0, [.int ys, .int yd, .int yr, .int yz, .int yh, .double yha, .double xhh, .double xma, .double xmh, .int xl])), (b, .inr (0, [.int ys, .int yd, .int yr, .int yz, .int yh, .double yha, .double yhh, .double yma, .double ymh, .int yl]))]) H := hP
  have hD : va_D A ([(a, .inr (0, [.int ys, .int yd, .int yr, .int yz, .int yh, .double yha, .double xhh, .double xma, .double xmh, .int xl])), (b, .inr (0, [.int ys, .int yd, .int yr, .int yz, .int yh, .double yha, .double yhh, .double yma, .double ymh, .int yl]))]) := hD
  refine lv_aload_n hx hb dX0_copyFrom_48 rfl (lv_at hl 0 rfl) ?_
  refine lv_aload_n hx hb dX0_copyFrom_49 rfl (lv_at hl 1 rfl) ?_
  refine gf_X0_31 E hP 1 rfl rfl dX0_copyFrom_50 ?_
  refine gp_X0_31 E hP hD hS 0 rfl rfl rfl (Nat.le_of_ble_eq_true rfl) dX0_copyFrom_53 (fun H locs hP hD hS => ?_)
  have hP : va_P D vwCl ([(a, .inr (0, [.int ys, .int yd, .int yr, .int yz, .int yh, .double yha, .double yhh, .double xma, .double xmh, .int xl])), (b, .inr (0, [.int ys, .int yd, .int yr, .int yz, .int yh, .double yha, .double yhh, .double yma, .double ymh, .int yl]))]) H := hP
  have hD : va_D A ([(a, .inr (0, [.int ys, .int yd, .int yr, .int yz, .int yh, .double yha, .double yhh, .double xma, .double xmh, .int xl])), (b, .inr (0, [.int ys, .int yd, .int yr, .int yz, .int yh, .double yha, .double yhh, .double yma, .double ymh, .int yl]))]) := hD
  refine lv_aload_n hx hb dX0_copyFrom_56 rfl (lv_at hl 0 rfl) ?_
  refine lv_aload_n hx hb dX0_copyFrom_57 rfl (lv_at hl 1 rfl) ?_
  refine gf_X0_34 E hP 1 rfl rfl dX0_copyFrom_58 ?_
  refine gp_X0_34 E hP hD hS 0 rfl rfl rfl (Nat.le_of_ble_eq_true rfl) dX0_copyFrom_61 (fun H locs hP hD hS => ?_)
  have hP : va_P D vwCl ([(a, .inr (0, [.int ys, .int yd, .int yr, .int yz, .int yh, .double yha, .double yhh, .double yma, .double xmh, .int xl])), (b, .inr (0, [.int ys, .int yd, .int yr, .int yz, .int yh, .double yha, .double yhh, .double yma, .double ymh, .int yl]))]) H := hP
  have hD : va_D A ([(a, .inr (0, [.int ys, .int yd, .int yr, .int yz, .int yh, .double yha, .double yhh, .double yma, .double xmh, .int xl])), (b, .inr (0, [.int ys, .int yd, .int yr, .int yz, .int yh, .double yha, .double yhh, .double yma, .double ymh, .int yl]))]) := hD
  refine lv_aload_n hx hb dX0_copyFrom_64 rfl (lv_at hl 0 rfl) ?_
  refine lv_aload_n hx hb dX0_copyFrom_65 rfl (lv_at hl 1 rfl) ?_
  refine gf_X0_37 E hP 1 rfl rfl dX0_copyFrom_66 ?_
  refine gp_X0_37 E hP hD hS 0 rfl rfl rfl (Nat.le_of_ble_eq_true rfl) dX0_copyFrom_69 (fun H locs hP hD hS => ?_)
  have hP : va_P D vwCl ([(a, .inr (0, [.int ys, .int yd, .int yr, .int yz, .int yh, .double yha, .double yhh, .double yma, .double ymh, .int xl])), (b, .inr (0, [.int ys, .int yd, .int yr, .int yz, .int yh, .double yha, .double yhh, .double yma, .double ymh, .int yl]))]) H := hP
  have hD : va_D A ([(a, .inr (0, [.int ys, .int yd, .int yr, .int yz, .int yh, .double yha, .double yhh, .double yma, .double ymh, .int xl])), (b, .inr (0, [.int ys, .int yd, .int yr, .int yz, .int yh, .double yha, .double yhh, .double yma, .double ymh, .int yl]))]) := hD
  refine lv_aload_n hx hb dX0_copyFrom_72 rfl (lv_at hl 0 rfl) ?_
  refine lv_aload_n hx hb dX0_copyFrom_73 rfl (lv_at hl 1 rfl) ?_
  refine gf_X0_40 E hP 1 rfl rfl dX0_copyFrom_74 ?_
  refine gp_X0_40 E hP hD hS 0 rfl (nz_n hyl) (nz_f hyl) (Nat.le_of_ble_eq_true rfl) dX0_copyFrom_77 (fun H locs hP hD hS => ?_)
  have hP : va_P D vwCl ([(a, .inr (0, [.int ys, .int yd, .int yr, .int yz, .int yh, .double yha, .double yhh, .double yma, .double ymh, .int yl])), (b, .inr (0, [.int ys, .int yd, .int yr, .int yz, .int yh, .double yha, .double yhh, .double yma, .double ymh, .int yl]))]) H := hP
  have hD : va_D A ([(a, .inr (0, [.int ys, .int yd, .int yr, .int yz, .int yh, .double yha, .double yhh, .double yma, .double ymh, .int yl])), (b, .inr (0, [.int ys, .int yd, .int yr, .int yz, .int yh, .double yha, .double yhh, .double yma, .double ymh, .int yl]))]) := hD
  exact g_vret hQ E M rfl hS hP hD () rfl (trivial) dX0_copyFrom_80
