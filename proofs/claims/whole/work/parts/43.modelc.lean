abbrev rm_Jxe99ae_isNaN_b9ae7 : Room := { frames := 0, cells := 0, slots := 0, locals := 0 }
set_option maxHeartbeats 600000 in
set_option maxRecDepth 100000 in
theorem CJxe99ae_isNaN_b9ae7 (l : Launch) (D : va_G) (g : Nat → ClassId) (sz : Nat) (x : UInt64) : Met l yJxe99ae_isNaN_b9ae7 (Cond.code yJxe99ae_isNaN_b9ae7 prog_11_method_6_code 2 (some .boolean) :: WA) rm_Jxe99ae_isNaN_b9ae7 (va_Pc [.double x] (Pre D g ([]) sz)) (va_Qi (fun (r : Int32) (_ : Unit) => (r = 1 ∧ ¬ Op.cmpValue (FP.dcmp x x) .l = 0) ∨ (r = 0 ∧ ¬ (¬ Op.cmpValue (FP.dcmp x x) .l = 0))) (fun (_ : Unit) t => Bp D g (va_A ([]) sz) ([]) t) (va_A ([]) sz)) 0 0 (va_A ([]) sz) := by
  refine g_metF (av := [.double x]) (QcA := fun A => va_Qi (fun (r : Int32) (_ : Unit) => (r = 1 ∧ ¬ Op.cmpValue (FP.dcmp x x) .l = 0) ∨ (r = 0 ∧ ¬ (¬ Op.cmpValue (FP.dcmp x x) .l = 0))) (fun (_ : Unit) t => Bp D g A ([]) t) A) (by decide +kernel) (Nat.le_of_ble_eq_true rfl) ?_
  intro p e s m below meth c A Q ls E M hP hD hS hA hQ hl
  have hx := E.1.1
  have hb := E.1.2.1
  have hl : lv_has ls 2 [(0, .double x)] := hl
  refine lv_dload_n hx hb dJxe99ae_isNaN_b9ae7_0 rfl (lv_at hl 0 rfl) ?_
  refine lv_dload_n hx hb dJxe99ae_isNaN_b9ae7_1 rfl (lv_at hl 0 rfl) ?_
  refine lv_dcmp hx hb dJxe99ae_isNaN_b9ae7_2 ?_
  refine lv_if_eq (tgt := 10) hx hb dJxe99ae_isNaN_b9ae7_3 (by decide) (fun c_3 => ?_) (fun c_3 => ?_)
  · skip
    refine lv_iconst (v := 0) hx hb dJxe99ae_isNaN_b9ae7_10 (by decide) ?_
    exact g_zret hQ E M rfl (Or.inl rfl) hS hP hD () rfl (Or.inr ⟨rfl, fun h => h c_3⟩) dJxe99ae_isNaN_b9ae7_11
  · skip
    refine lv_iconst (v := 1) hx hb dJxe99ae_isNaN_b9ae7_6 (by decide) ?_
    refine lv_goto (tgt := 11) hx hb dJxe99ae_isNaN_b9ae7_7 (by decide) ?_
    exact g_zret hQ E M rfl (Or.inr rfl) hS hP hD () rfl (Or.inl ⟨rfl, c_3⟩) dJxe99ae_isNaN_b9ae7_11
abbrev rm_Jxe99ae_doubleToLongBits_ccdee : Room := { frames := 1, cells := 0, slots := 0, locals := 26 }
set_option maxHeartbeats 600000 in
set_option maxRecDepth 100000 in
theorem CJxe99ae_doubleToLongBits_ccdee (l : Launch) (D : va_G) (g : Nat → ClassId) (sz : Nat) (x : UInt64) : Met l yJxe99ae_doubleToLongBits_ccdee (Cond.code yJxe99ae_doubleToLongBits_ccdee prog_11_method_23_code 2 (some .long) :: WA) rm_Jxe99ae_doubleToLongBits_ccdee (va_Pc [.double x] (Pre D g ([]) sz)) (va_Ql (fun (r : Int64) (_ : Unit) => r = (dbL x)) (fun (_ : Unit) t => Bp D g (va_A ([]) sz) ([]) t) (va_A ([]) sz)) 0 0 (va_A ([]) sz) := by
  refine g_metF (av := [.double x]) (QcA := fun A => va_Ql (fun (r : Int64) (_ : Unit) => r = (dbL x)) (fun (_ : Unit) t => Bp D g A ([]) t) A) (by decide +kernel) (Nat.le_of_ble_eq_true rfl) ?_
  intro p e s m below meth c A Q ls E M hP hD hS hA hQ hl
  have hx := E.1.1
  have hb := E.1.2.1
  have hl : lv_has ls 2 [(0, .double x)] := hl
  refine lv_dload_n hx hb dJxe99ae_doubleToLongBits_ccdee_0 rfl (lv_at hl 0 rfl) ?_
  refine cl_Jxe99ae_122 (As := [.double x]) (rest := []) (wc := []) (wr := []) (wn := (fun _ => [])) (isC := []) (isR := []) (isP := []) E hS hA hP hD ⟨rfl, rfl, rfl, rfl, by decide, fun _ => rfl, rfl⟩ (CJxe99ae_isNaN_b9ae7 l D g _ x) ⟨Nat.le_of_ble_eq_true rfl, Nat.le_of_ble_eq_true rfl⟩ rfl rfl rfl hl.1 rfl (Nat.le_of_ble_eq_true rfl) ⟨Nat.le_of_ble_eq_true rfl, Nat.le_of_ble_eq_true rfl⟩ dJxe99ae_doubleToLongBits_ccdee_1 (fun r u H locs hw hP hD hS => ?_)
  have hP : va_P D vwCl ([]) H := hP
  have hD : va_D A ([]) := hD
  obtain ⟨r1, er1⟩ : ∃ z, z = r := ⟨_, rfl⟩
  rw [← er1] at hw ⊢; have hw2 := hw
  rcases hw2 with ⟨rfl, b_1⟩ | ⟨rfl, b_1⟩
  · skip
    refine lv_if_ne (tgt := 12) hx hb dJxe99ae_doubleToLongBits_ccdee_4 (by decide) (fun c_4 => ?_) (fun c_4 => ?_)
    · skip
      refine gk_Jxe99ae_137 E dJxe99ae_doubleToLongBits_ccdee_12 ?_
      have hL : (9221120237041090560 : Int64) = (dbL x) := (dbL_1 b_1)
      exact g_lret hQ E M rfl hS hP hD () rfl (hL) dJxe99ae_doubleToLongBits_ccdee_15
    · exact absurd c_4 (by decide)
  · skip
    refine lv_if_ne (tgt := 12) hx hb dJxe99ae_doubleToLongBits_ccdee_4 (by decide) (fun c_4 => ?_) (fun c_4 => ?_)
    · exact absurd c_4 (by decide)
    · skip
      refine lv_dload_n hx hb dJxe99ae_doubleToLongBits_ccdee_7 rfl (lv_at hl 0 rfl) ?_
      refine gn_Jxe99ae_134 E hl.1.symm (Nat.le_of_ble_eq_true rfl) (Nat.le_of_ble_eq_true rfl) dJxe99ae_doubleToLongBits_ccdee_8 ?_
      have hL : (x.toInt64 : Int64) = (dbL x) := (dbL_0 (Classical.not_not.mp b_1))
      exact g_lret hQ E M rfl hS hP hD () rfl (hL) dJxe99ae_doubleToLongBits_ccdee_11
