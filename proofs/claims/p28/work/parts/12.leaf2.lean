abbrev rm_X1_timeTo : Room := { frames := 2, cells := 0, slots := 0, locals := 43 }
set_option maxHeartbeats 600000 in
set_option maxRecDepth 100000 in
theorem CX1_timeTo (l : Launch) (D : va_G) (g : Nat → ClassId) (sz : Nat) (a b : Nat) (xt xh xd v : Int32) (ys yd yr yz yh yl : Int32) (yha yhh yma ymh : UInt64) : Met l yX1_timeTo (Cond.code yX1_timeTo prog_3_method_3_code 6 (some .int) :: WA) rm_X1_timeTo (va_Pc [.ref a, .ref b, .int v] (Pre D g ([(a, .inr (1, [.int xt, .int xh, .int xd])), (b, .inr (0, [.int ys, .int yd, .int yr, .int yz, .int yh, .double yha, .double yhh, .double yma, .double ymh, .int yl]))]) sz)) (va_Qi (fun (r : Int32) (_ : Unit) => r = (slF (ntF xt yz) yh yd xt xh xd v)) (fun (_ : Unit) t => Bp D g (va_A ([(a, .inr (1, [.int xt, .int xh, .int xd])), (b, .inr (0, [.int ys, .int yd, .int yr, .int yz, .int yh, .double yha, .double yhh, .double yma, .double ymh, .int yl]))]) sz) ([(a, .inr (1, [.int xt, .int xh, .int xd])), (b, .inr (0, [.int ys, .int yd, .int yr, .int yz, .int yh, .double yha, .double yhh, .double yma, .double ymh, .int yl]))]) t) (va_A ([(a, .inr (1, [.int xt, .int xh, .int xd])), (b, .inr (0, [.int ys, .int yd, .int yr, .int yz, .int yh, .double yha, .double yhh, .double yma, .double ymh, .int yl]))]) sz)) 0 0 (va_A ([(a, .inr (1, [.int xt, .int xh, .int xd])), (b, .inr (0, [.int ys, .int yd, .int yr, .int yz, .int yh, .double yha, .double yhh, .double yma, .double ymh, .int yl]))]) sz) := by
  refine g_met (av := [.ref a, .ref b, .int v]) (QcA := fun A => va_Qi (fun (r : Int32) (_ : Unit) => r = (slF (ntF xt yz) yh yd xt xh xd v)) (fun (_ : Unit) t => Bp D g A ([(a, .inr (1, [.int xt, .int xh, .int xd])), (b, .inr (0, [.int ys, .int yd, .int yr, .int yz, .int yh, .double yha, .double yhh, .double yma, .double ymh, .int yl]))]) t) A) rfl (Nat.le_of_ble_eq_true rfl) ?_
  intro p e s m below meth c A Q ls E M hP hD hS hA hQ hl
  have hx := E.1.1
  have hb := E.1.2.1
  have hl : lv_has ls 6 [(0, .ref a), (1, .ref b), (2, .int v)] := hl
  refine lv_aload_n hx hb dX1_timeTo_0 rfl (lv_at hl 0 rfl) ?_
  refine gf_X1_9 E hP 0 rfl rfl dX1_timeTo_1 ?_
  refine lv_aload_n hx hb dX1_timeTo_4 rfl (lv_at hl 1 rfl) ?_
  refine gf_X1_21 E hP 1 rfl rfl dX1_timeTo_5 ?_
  refine cl_X1_26 (As := [.int xt, .int yz]) (rest := []) (wc := []) (wr := [(a, .inr (1, [.int xt, .int xh, .int xd])), (b, .inr (0, [.int ys, .int yd, .int yr, .int yz, .int yh, .double yha, .double yhh, .double yma, .double ymh, .int yl]))]) (wn := (fun _ => [(a, .inr (1, [.int xt, .int xh, .int xd])), (b, .inr (0, [.int ys, .int yd, .int yr, .int yz, .int yh, .double yha, .double yhh, .double yma, .double ymh, .int yl]))])) (isC := []) (isR := [0, 1]) (isP := [0, 1]) E hS hA hP hD ⟨rfl, rfl, rfl, rfl, by decide, fun _ => rfl, rfl⟩ (CX7_nearestTurn l D g _ xt yz) ⟨Nat.le_of_ble_eq_true rfl, Nat.le_of_ble_eq_true rfl⟩ rfl rfl rfl hl.1 rfl (Nat.le_of_ble_eq_true rfl) ⟨Nat.le_of_ble_eq_true rfl, Nat.le_of_ble_eq_true rfl⟩ dX1_timeTo_8 (fun r u H locs hw hP hD hS => ?_)
  have hP : va_P D vwCl ([(a, .inr (1, [.int xt, .int xh, .int xd])), (b, .inr (0, [.int ys, .int yd, .int yr, .int yz, .int yh, .double yha, .double yhh, .double yma, .double ymh, .int yl]))]) H := hP
  have hD : va_D A ([(a, .inr (1, [.int xt, .int xh, .int xd])), (b, .inr (0, [.int ys, .int yd, .int yr, .int yz, .int yh, .double yha, .double yhh, .double yma, .double ymh, .int yl]))]) := hD
  subst hw
  refine lv_aload_n hx hb dX1_timeTo_11 rfl (lv_at hl 0 rfl) ?_
  refine gf_X1_9 E hP 0 rfl rfl dX1_timeTo_12 ?_
  refine lv_isub hx hb dX1_timeTo_15 ?_
  refine gm_X1_30 E hl.1.symm (Nat.le_of_ble_eq_true rfl) (Nat.le_of_ble_eq_true rfl) (Nat.zero_le _) (Nat.zero_le _) dX1_timeTo_16 ?_
  refine g_top (w := .int (absI (((ntF xt yz)) - xt))) rfl ?_
  refine lv_istore_n (lv' := [(3, .int (absI (((ntF xt yz)) - xt))), (0, .ref a), (1, .ref b), (2, .int v)]) hx hb dX1_timeTo_19 rfl hl (by decide) rfl (fun ls hl => ?_)
  refine lv_aload_n hx hb dX1_timeTo_20 rfl (lv_at hl 2 rfl) ?_
  refine gf_X1_36 E hP 1 rfl rfl dX1_timeTo_21 ?_
  refine lv_aload_n hx hb dX1_timeTo_24 rfl (lv_at hl 1 rfl) ?_
  refine gf_X1_15 E hP 0 rfl rfl dX1_timeTo_25 ?_
  refine lv_isub hx hb dX1_timeTo_28 ?_
  refine gm_X1_30 E hl.1.symm (Nat.le_of_ble_eq_true rfl) (Nat.le_of_ble_eq_true rfl) (Nat.zero_le _) (Nat.zero_le _) dX1_timeTo_29 ?_
  refine g_top (w := .int (absI (yh - xh))) rfl ?_
  refine lv_istore (lv' := [(4, .int (absI (yh - xh))), (3, .int (absI (((ntF xt yz)) - xt))), (0, .ref a), (1, .ref b), (2, .int v)]) hx hb dX1_timeTo_32 hl (by decide) rfl (fun ls hl => ?_)
  refine lv_iload_n hx hb dX1_timeTo_34 rfl (lv_at hl 1 rfl) ?_
  refine lv_iload hx hb dX1_timeTo_35 (lv_at hl 0 rfl) ?_
  refine gm_X1_37 E hl.1.symm (Nat.le_of_ble_eq_true rfl) (Nat.le_of_ble_eq_true rfl) (Nat.zero_le _) (Nat.zero_le _) dX1_timeTo_37 ?_
  refine g_top (w := .int (mxI (absI (((ntF xt yz)) - xt)) (absI (yh - xh)))) rfl ?_
  refine lv_iload_n hx hb dX1_timeTo_40 rfl (lv_at hl 4 rfl) ?_
  refine cl_X1_40 (As := [.int (mxI (absI (((ntF xt yz)) - xt)) (absI (yh - xh))), .int v]) (rest := []) (wc := []) (wr := [(a, .inr (1, [.int xt, .int xh, .int xd])), (b, .inr (0, [.int ys, .int yd, .int yr, .int yz, .int yh, .double yha, .double yhh, .double yma, .double ymh, .int yl]))]) (wn := (fun _ => [(a, .inr (1, [.int xt, .int xh, .int xd])), (b, .inr (0, [.int ys, .int yd, .int yr, .int yz, .int yh, .double yha, .double yhh, .double yma, .double ymh, .int yl]))])) (isC := []) (isR := [0, 1]) (isP := [0, 1]) E hS hA hP hD ⟨rfl, rfl, rfl, rfl, by decide, fun _ => rfl, rfl⟩ (CX7_dividedUp l D g _ (mxI (absI (((ntF xt yz)) - xt)) (absI (yh - xh))) v) ⟨Nat.le_of_ble_eq_true rfl, Nat.le_of_ble_eq_true rfl⟩ rfl rfl rfl hl.1 rfl (Nat.le_of_ble_eq_true rfl) ⟨Nat.le_of_ble_eq_true rfl, Nat.le_of_ble_eq_true rfl⟩ dX1_timeTo_41 (fun r u H locs hw hP hD hS => ?_)
  have hP : va_P D vwCl ([(a, .inr (1, [.int xt, .int xh, .int xd])), (b, .inr (0, [.int ys, .int yd, .int yr, .int yz, .int yh, .double yha, .double yhh, .double yma, .double ymh, .int yl]))]) H := hP
  have hD : va_D A ([(a, .inr (1, [.int xt, .int xh, .int xd])), (b, .inr (0, [.int ys, .int yd, .int yr, .int yz, .int yh, .double yha, .double yhh, .double yma, .double ymh, .int yl]))]) := hD
  subst hw
  refine lv_istore (lv' := [(5, .int ((divUp (mxI (absI (((ntF xt yz)) - xt)) (absI (yh - xh))) v))), (4, .int (absI (yh - xh))), (3, .int (absI (((ntF xt yz)) - xt))), (0, .ref a), (1, .ref b), (2, .int v)]) hx hb dX1_timeTo_44 hl (by decide) rfl (fun ls hl => ?_)
  refine lv_aload_n hx hb dX1_timeTo_46 rfl (lv_at hl 4 rfl) ?_
  refine gf_X1_43 E hP 1 rfl rfl dX1_timeTo_47 ?_
  refine lv_aload_n hx hb dX1_timeTo_50 rfl (lv_at hl 3 rfl) ?_
  refine gf_X1_18 E hP 0 rfl rfl dX1_timeTo_51 ?_
  refine lv_icmp_ne (tgt := 62) hx hb dX1_timeTo_54 (by decide) (fun c_54 => ?_) (fun c_54 => ?_)
  · skip
    refine lv_iload hx hb dX1_timeTo_62 (lv_at hl 0 rfl) ?_
    refine lv_bipush (v := 60) hx hb dX1_timeTo_64 (by decide) ?_
    refine lv_iadd hx hb dX1_timeTo_66 ?_
    have hL : ((((divUp (mxI (absI (((ntF xt yz)) - xt)) (absI (yh - xh))) v)) + 60) : Int32) = (slF (ntF xt yz) yh yd xt xh xd v) := by simp only [slF, tmF, if_neg c_54]
    exact g_iret hQ E M rfl hS hP hD () rfl (hL) dX1_timeTo_67
  · skip
    refine lv_iload hx hb dX1_timeTo_57 (lv_at hl 0 rfl) ?_
    refine lv_goto (tgt := 67) hx hb dX1_timeTo_59 (by decide) ?_
    have hL : (((divUp (mxI (absI (((ntF xt yz)) - xt)) (absI (yh - xh))) v)) : Int32) = (slF (ntF xt yz) yh yd xt xh xd v) := by simp only [slF, tmF, if_pos c_54]
    exact g_iret hQ E M rfl hS hP hD () rfl (hL) dX1_timeTo_67
abbrev rm_X1_moveTo : Room := { frames := 2, cells := 0, slots := 0, locals := 43 }
set_option maxHeartbeats 600000 in
set_option maxRecDepth 100000 in
theorem CX1_moveTo (l : Launch) (D : va_G) (g : Nat → ClassId) (sz : Nat) (a b : Nat) (xt xh xd : Int32) (ys yd yr yz yh yl : Int32) (yha yhh yma ymh : UInt64) : Met l yX1_moveTo (Cond.code yX1_moveTo prog_3_method_4_code 2 none :: WA) rm_X1_moveTo (va_Pc [.ref a, .ref b] (Pre D g ([(a, .inr (1, [.int xt, .int xh, .int xd])), (b, .inr (0, [.int ys, .int yd, .int yr, .int yz, .int yh, .double yha, .double yhh, .double yma, .double ymh, .int yl]))]) sz)) (va_Qv (fun (_ : Unit) => True) (fun (_ : Unit) t => Bp D g (va_A ([(a, .inr (1, [.int xt, .int xh, .int xd])), (b, .inr (0, [.int ys, .int yd, .int yr, .int yz, .int yh, .double yha, .double yhh, .double yma, .double ymh, .int yl]))]) sz) ([(a, .inr (1, [.int (ntF xt yz), .int yh, .int yd])), (b, .inr (0, [.int ys, .int yd, .int yr, .int yz, .int yh, .double yha, .double yhh, .double yma, .double ymh, .int yl]))]) t) (va_A ([(a, .inr (1, [.int xt, .int xh, .int xd])), (b, .inr (0, [.int ys, .int yd, .int yr, .int yz, .int yh, .double yha, .double yhh, .double yma, .double ymh, .int yl]))]) sz)) 0 0 (va_A ([(a, .inr (1, [.int xt, .int xh, .int xd])), (b, .inr (0, [.int ys, .int yd, .int yr, .int yz, .int yh, .double yha, .double yhh, .double yma, .double ymh, .int yl]))]) sz) := by
  refine g_met (av := [.ref a, .ref b]) (QcA := fun A => va_Qv (fun (_ : Unit) => True) (fun (_ : Unit) t => Bp D g A ([(a, .inr (1, [.int (ntF xt yz), .int yh, .int yd])), (b, .inr (0, [.int ys, .int yd, .int yr, .int yz, .int yh, .double yha, .double yhh, .double yma, .double ymh, .int yl]))]) t) A) rfl (Nat.le_of_ble_eq_true rfl) ?_
  intro p e s m below meth c A Q ls E M hP hD hS hA hQ hl
  have hx := E.1.1
  have hb := E.1.2.1
  have hl : lv_has ls 2 [(0, .ref a), (1, .ref b)] := hl
  refine lv_aload_n hx hb dX1_moveTo_0 rfl (lv_at hl 0 rfl) ?_
  refine lv_aload_n hx hb dX1_moveTo_1 rfl (lv_at hl 0 rfl) ?_
  refine gf_X1_9 E hP 0 rfl rfl dX1_moveTo_2 ?_
  refine lv_aload_n hx hb dX1_moveTo_5 rfl (lv_at hl 1 rfl) ?_
  refine gf_X1_21 E hP 1 rfl rfl dX1_moveTo_6 ?_
  refine cl_X1_26 (As := [.int xt, .int yz]) (rest := [.ref a]) (wc := []) (wr := [(a, .inr (1, [.int xt, .int xh, .int xd])), (b, .inr (0, [.int ys, .int yd, .int yr, .int yz, .int yh, .double yha, .double yhh, .double yma, .double ymh, .int yl]))]) (wn := (fun _ => [(a, .inr (1, [.int xt, .int xh, .int xd])), (b, .inr (0, [.int ys, .int yd, .int yr, .int yz, .int yh, .double yha, .double yhh, .double yma, .double ymh, .int yl]))])) (isC := []) (isR := [0, 1]) (isP := [0, 1]) E hS hA hP hD ⟨rfl, rfl, rfl, rfl, by decide, fun _ => rfl, rfl⟩ (CX7_nearestTurn l D g _ xt yz) ⟨Nat.le_of_ble_eq_true rfl, Nat.le_of_ble_eq_true rfl⟩ rfl rfl rfl hl.1 rfl (Nat.le_of_ble_eq_true rfl) ⟨Nat.le_of_ble_eq_true rfl, Nat.le_of_ble_eq_true rfl⟩ dX1_moveTo_9 (fun r u H locs hw hP hD hS => ?_)
  have hP : va_P D vwCl ([(a, .inr (1, [.int xt, .int xh, .int xd])), (b, .inr (0, [.int ys, .int yd, .int yr, .int yz, .int yh, .double yha, .double yhh, .double yma, .double ymh, .int yl]))]) H := hP
  have hD : va_D A ([(a, .inr (1, [.int xt, .int xh, .int xd])), (b, .inr (0, [.int ys, .int yd, .int yr, .int yz, .int yh, .double yha, .double yhh, .double yma, .double ymh, .int yl]))]) := hD
  subst hw
  refine gp_X1_9 E hP hD hS 0 rfl rfl rfl (Nat.le_of_ble_eq_true rfl) dX1_moveTo_12 (fun H locs hP hD hS => ?_)
  have hP : va_P D vwCl ([(a, .inr (1, [.int ((ntF xt yz)), .int xh, .int xd])), (b, .inr (0, [.int ys, .int yd, .int yr, .int yz, .int yh, .double yha, .double yhh, .double yma, .double ymh, .int yl]))]) H := hP
  have hD : va_D A ([(a, .inr (1, [.int ((ntF xt yz)), .int xh, .int xd])), (b, .inr (0, [.int ys, .int yd, .int yr, .int yz, .int yh, .double yha, .double yhh, .double yma, .double ymh, .int yl]))]) := hD
  refine lv_aload_n hx hb dX1_moveTo_15 rfl (lv_at hl 0 rfl) ?_
  refine lv_aload_n hx hb dX1_moveTo_16 rfl (lv_at hl 1 rfl) ?_
  refine gf_X1_36 E hP 1 rfl rfl dX1_moveTo_17 ?_
  refine gp_X1_15 E hP hD hS 0 rfl rfl rfl (Nat.le_of_ble_eq_true rfl) dX1_moveTo_20 (fun H locs hP hD hS => ?_)
  have hP : va_P D vwCl ([(a, .inr (1, [.int ((ntF xt yz)), .int yh, .int xd])), (b, .inr (0, [.int ys, .int yd, .int yr, .int yz, .int yh, .double yha, .double yhh, .double yma, .double ymh, .int yl]))]) H := hP
  have hD : va_D A ([(a, .inr (1, [.int ((ntF xt yz)), .int yh, .int xd])), (b, .inr (0, [.int ys, .int yd, .int yr, .int yz, .int yh, .double yha, .double yhh, .double yma, .double ymh, .int yl]))]) := hD
  refine lv_aload_n hx hb dX1_moveTo_23 rfl (lv_at hl 0 rfl) ?_
  refine lv_aload_n hx hb dX1_moveTo_24 rfl (lv_at hl 1 rfl) ?_
  refine gf_X1_43 E hP 1 rfl rfl dX1_moveTo_25 ?_
  refine gp_X1_18 E hP hD hS 0 rfl rfl rfl (Nat.le_of_ble_eq_true rfl) dX1_moveTo_28 (fun H locs hP hD hS => ?_)
  have hP : va_P D vwCl ([(a, .inr (1, [.int ((ntF xt yz)), .int yh, .int yd])), (b, .inr (0, [.int ys, .int yd, .int yr, .int yz, .int yh, .double yha, .double yhh, .double yma, .double ymh, .int yl]))]) H := hP
  have hD : va_D A ([(a, .inr (1, [.int ((ntF xt yz)), .int yh, .int yd])), (b, .inr (0, [.int ys, .int yd, .int yr, .int yz, .int yh, .double yha, .double yhh, .double yma, .double ymh, .int yl]))]) := hD
  exact g_vret hQ E M rfl hS hP hD () rfl (trivial) dX1_moveTo_31
abbrev rm_X0_size : Room := { frames := 1, cells := 0, slots := 0, locals := 21 }
set_option maxHeartbeats 600000 in
set_option maxRecDepth 100000 in
theorem CX0_size (l : Launch) (D : va_G) (g : Nat → ClassId) (sz : Nat) (a : Nat) (xs xd xr xz xh xl : Int32) (xha xhh xma xmh : UInt64) : Met l yX0_size (Cond.code yX0_size prog_2_method_3_code 5 (some .double) :: WA) rm_X0_size (va_Pc [.ref a] (Pre D g ([(a, .inr (0, [.int xs, .int xd, .int xr, .int xz, .int xh, .double xha, .double xhh, .double xma, .double xmh, .int xl]))]) sz)) (va_Qd (fun (r : UInt64) (_ : Unit) => r = (szF xma xmh)) (fun (_ : Unit) t => Bp D g (va_A ([(a, .inr (0, [.int xs, .int xd, .int xr, .int xz, .int xh, .double xha, .double xhh, .double xma, .double xmh, .int xl]))]) sz) ([(a, .inr (0, [.int xs, .int xd, .int xr, .int xz, .int xh, .double xha, .double xhh, .double xma, .double xmh, .int xl]))]) t) (va_A ([(a, .inr (0, [.int xs, .int xd, .int xr, .int xz, .int xh, .double xha, .double xhh, .double xma, .double xmh, .int xl]))]) sz)) 0 0 (va_A ([(a, .inr (0, [.int xs, .int xd, .int xr, .int xz, .int xh, .double xha, .double xhh, .double xma, .double xmh, .int xl]))]) sz) := by
  refine g_met (av := [.ref a]) (QcA := fun A => va_Qd (fun (r : UInt64) (_ : Unit) => r = (szF xma xmh)) (fun (_ : Unit) t => Bp D g A ([(a, .inr (0, [.int xs, .int xd, .int xr, .int xz, .int xh, .double xha, .double xhh, .double xma, .double xmh, .int xl]))]) t) A) rfl (Nat.le_of_ble_eq_true rfl) ?_
  intro p e s m below meth c A Q ls E M hP hD hS hA hQ hl
  have hx := E.1.1
  have hb := E.1.2.1
  have hl : lv_has ls 5 [(0, .ref a)] := hl
  refine lv_aload_n hx hb dX0_size_0 rfl (lv_at hl 0 rfl) ?_
  refine gf_X0_34 E hP 0 rfl rfl dX0_size_1 ?_
  refine cl_X0_44 (As := [.double xma]) (rest := []) (wc := []) (wr := [(a, .inr (0, [.int xs, .int xd, .int xr, .int xz, .int xh, .double xha, .double xhh, .double xma, .double xmh, .int xl]))]) (wn := (fun _ => [(a, .inr (0, [.int xs, .int xd, .int xr, .int xz, .int xh, .double xha, .double xhh, .double xma, .double xmh, .int xl]))])) (isC := []) (isR := [0]) (isP := [0]) E hS hA hP hD ⟨rfl, rfl, rfl, rfl, by decide, fun _ => rfl, rfl⟩ (CX7_withoutSign l D g _ xma) ⟨Nat.le_of_ble_eq_true rfl, Nat.le_of_ble_eq_true rfl⟩ rfl rfl rfl hl.1 rfl (Nat.le_of_ble_eq_true rfl) ⟨Nat.le_of_ble_eq_true rfl, Nat.le_of_ble_eq_true rfl⟩ dX0_size_4 (fun r u H locs hw hP hD hS => ?_)
  have hP : va_P D vwCl ([(a, .inr (0, [.int xs, .int xd, .int xr, .int xz, .int xh, .double xha, .double xhh, .double xma, .double xmh, .int xl]))]) H := hP
  have hD : va_D A ([(a, .inr (0, [.int xs, .int xd, .int xr, .int xz, .int xh, .double xha, .double xhh, .double xma, .double xmh, .int xl]))]) := hD
  subst hw
  refine lv_dstore_n (lv' := [(1, .double ((absF xma))), (0, .ref a)]) hx hb dX0_size_7 rfl hl (by decide) rfl (fun ls hl => ?_)
  refine lv_aload_n hx hb dX0_size_8 rfl (lv_at hl 1 rfl) ?_
  refine gf_X0_37 E hP 0 rfl rfl dX0_size_9 ?_
  refine cl_X0_44 (As := [.double xmh]) (rest := []) (wc := []) (wr := [(a, .inr (0, [.int xs, .int xd, .int xr, .int xz, .int xh, .double xha, .double xhh, .double xma, .double xmh, .int xl]))]) (wn := (fun _ => [(a, .inr (0, [.int xs, .int xd, .int xr, .int xz, .int xh, .double xha, .double xhh, .double xma, .double xmh, .int xl]))])) (isC := []) (isR := [0]) (isP := [0]) E hS hA hP hD ⟨rfl, rfl, rfl, rfl, by decide, fun _ => rfl, rfl⟩ (CX7_withoutSign l D g _ xmh) ⟨Nat.le_of_ble_eq_true rfl, Nat.le_of_ble_eq_true rfl⟩ rfl rfl rfl hl.1 rfl (Nat.le_of_ble_eq_true rfl) ⟨Nat.le_of_ble_eq_true rfl, Nat.le_of_ble_eq_true rfl⟩ dX0_size_12 (fun r u H locs hw hP hD hS => ?_)
  have hP : va_P D vwCl ([(a, .inr (0, [.int xs, .int xd, .int xr, .int xz, .int xh, .double xha, .double xhh, .double xma, .double xmh, .int xl]))]) H := hP
  have hD : va_D A ([(a, .inr (0, [.int xs, .int xd, .int xr, .int xz, .int xh, .double xha, .double xhh, .double xma, .double xmh, .int xl]))]) := hD
  subst hw
  refine lv_dstore_n (lv' := [(3, .double ((absF xmh))), (1, .double ((absF xma))), (0, .ref a)]) hx hb dX0_size_15 rfl hl (by decide) rfl (fun ls hl => ?_)
  refine lv_dload_n hx hb dX0_size_16 rfl (lv_at hl 1 rfl) ?_
  refine lv_dload_n hx hb dX0_size_17 rfl (lv_at hl 0 rfl) ?_
  refine lv_dcmp hx hb dX0_size_18 ?_
  refine lv_if_lt (tgt := 26) hx hb dX0_size_19 (by decide) (fun c_19 => ?_) (fun c_19 => ?_)
  · skip
    refine lv_dload_n hx hb dX0_size_26 rfl (lv_at hl 0 rfl) ?_
    have hL : (((absF xmh)) : UInt64) = (szF xma xmh) := by simp only [szF, if_pos c_19]
    exact g_dret hQ E M rfl hS hP hD () rfl (hL) dX0_size_27
  · skip
    refine lv_dload_n hx hb dX0_size_22 rfl (lv_at hl 1 rfl) ?_
    refine lv_goto (tgt := 27) hx hb dX0_size_23 (by decide) ?_
    have hL : (((absF xma)) : UInt64) = (szF xma xmh) := by simp only [szF, if_neg c_19]
    exact g_dret hQ E M rfl hS hP hD () rfl (hL) dX0_size_27
abbrev rm_X0_missNumber : Room := { frames := 2, cells := 0, slots := 0, locals := 45 }
set_option maxHeartbeats 600000 in
set_option maxRecDepth 100000 in
theorem CX0_missNumber (l : Launch) (D : va_G) (g : Nat → ClassId) (sz : Nat) (a : Nat) (w : Int32) (xs xd xr xz xh xl : Int32) (xha xhh xma xmh : UInt64) : Met l yX0_missNumber (Cond.code yX0_missNumber prog_2_method_4_code 2 (some .double) :: WA) rm_X0_missNumber (va_Pc [.ref a, .int w] (Pre D g ([(a, .inr (0, [.int xs, .int xd, .int xr, .int xz, .int xh, .double xha, .double xhh, .double xma, .double xmh, .int xl]))]) sz)) (va_Qd (fun (r : UInt64) (_ : Unit) => r = (mnF xma xmh w)) (fun (_ : Unit) t => Bp D g (va_A ([(a, .inr (0, [.int xs, .int xd, .int xr, .int xz, .int xh, .double xha, .double xhh, .double xma, .double xmh, .int xl]))]) sz) ([(a, .inr (0, [.int xs, .int xd, .int xr, .int xz, .int xh, .double xha, .double xhh, .double xma, .double xmh, .int xl]))]) t) (va_A ([(a, .inr (0, [.int xs, .int xd, .int xr, .int xz, .int xh, .double xha, .double xhh, .double xma, .double xmh, .int xl]))]) sz)) 0 0 (va_A ([(a, .inr (0, [.int xs, .int xd, .int xr, .int xz, .int xh, .double xha, .double xhh, .double xma, .double xmh, .int xl]))]) sz) := by
  refine g_met (av := [.ref a, .int w]) (QcA := fun A => va_Qd (fun (r : UInt64) (_ : Unit) => r = (mnF xma xmh w)) (fun (_ : Unit) t => Bp D g A ([(a, .inr (0, [.int xs, .int xd, .int xr, .int xz, .int xh, .double xha, .double xhh, .double xma, .double xmh, .int xl]))]) t) A) rfl (Nat.le_of_ble_eq_true rfl) ?_
  intro p e s m below meth c A Q ls E M hP hD hS hA hQ hl
  have hx := E.1.1
  have hb := E.1.2.1
  have hl : lv_has ls 2 [(0, .ref a), (1, .int w)] := hl
  refine lv_iload_n hx hb dX0_missNumber_0 rfl (lv_at hl 1 rfl) ?_
  refine lv_if_ne (tgt := 9) hx hb dX0_missNumber_1 (by decide) (fun c_1 => ?_) (fun c_1 => ?_)
  · skip
    refine lv_iload_n hx hb dX0_missNumber_9 rfl (lv_at hl 1 rfl) ?_
    refine lv_iconst (v := 1) hx hb dX0_missNumber_10 (by decide) ?_
    refine lv_icmp_ne (tgt := 21) hx hb dX0_missNumber_11 (by decide) (fun c_11 => ?_) (fun c_11 => ?_)
    · skip
      refine lv_aload_n hx hb dX0_missNumber_21 rfl (lv_at hl 0 rfl) ?_
      refine cl_X0_48 (As := []) (rest := []) (b := a) (wc := [(a, .inr (0, [.int xs, .int xd, .int xr, .int xz, .int xh, .double xha, .double xhh, .double xma, .double xmh, .int xl]))]) (wr := []) (wn := (fun _ => [(a, .inr (0, [.int xs, .int xd, .int xr, .int xz, .int xh, .double xha, .double xhh, .double xma, .double xmh, .int xl]))])) (isC := [0]) (isR := []) (isP := [0]) E hS hA hP hD ⟨rfl, rfl, rfl, rfl, by decide, fun _ => rfl, rfl⟩ (CX0_size l D g _ a xs xd xr xz xh xl xha xhh xma xmh) ⟨Nat.le_of_ble_eq_true rfl, Nat.le_of_ble_eq_true rfl⟩ rfl rfl 0 rfl rfl hl.1 rfl (Nat.le_of_ble_eq_true rfl) ⟨Nat.le_of_ble_eq_true rfl, Nat.le_of_ble_eq_true rfl⟩ dX0_missNumber_22 (fun r u H locs hw hP hD hS => ?_)
      have hP : va_P D vwCl ([(a, .inr (0, [.int xs, .int xd, .int xr, .int xz, .int xh, .double xha, .double xhh, .double xma, .double xmh, .int xl]))]) H := hP
      have hD : va_D A ([(a, .inr (0, [.int xs, .int xd, .int xr, .int xz, .int xh, .double xha, .double xhh, .double xma, .double xmh, .int xl]))]) := hD
      subst hw
      have hL : (((szF xma xmh)) : UInt64) = (mnF xma xmh w) := by simp only [mnF, if_neg c_1, if_neg c_11]
      exact g_dret hQ E M rfl hS hP hD () rfl (hL) dX0_missNumber_25
    · skip
      refine lv_aload_n hx hb dX0_missNumber_14 rfl (lv_at hl 0 rfl) ?_
      refine gf_X0_37 E hP 0 rfl rfl dX0_missNumber_15 ?_
      refine lv_goto (tgt := 25) hx hb dX0_missNumber_18 (by decide) ?_
      have hL : (xmh : UInt64) = (mnF xma xmh w) := by simp only [mnF, if_neg c_1, if_pos c_11]
      exact g_dret hQ E M rfl hS hP hD () rfl (hL) dX0_missNumber_25
  · skip
    refine lv_aload_n hx hb dX0_missNumber_4 rfl (lv_at hl 0 rfl) ?_
    refine gf_X0_34 E hP 0 rfl rfl dX0_missNumber_5 ?_
    have hL : (xma : UInt64) = (mnF xma xmh w) := by simp only [mnF, if_pos c_1]
    exact g_dret hQ E M rfl hS hP hD () rfl (hL) dX0_missNumber_8
abbrev rm_X4_copyFrom : Room := { frames := 1, cells := 0, slots := 0, locals := 48 }
set_option maxHeartbeats 600000 in
set_option maxRecDepth 100000 in
theorem CX4_copyFrom (l : Launch) (D : va_G) (g : Nat → ClassId) (sz : Nat) (a q1 q2 q3 q4 : Nat) (xc : Int32) (xaz xal xai xfi : Nat → Int32) (b o1 o2 o3 o4 : Nat) (yc : Int32) (yaz yal yai yfi : Nat → Int32) : Met l yX4_copyFrom (Cond.code yX4_copyFrom prog_6_method_2_code 2 none :: WA) rm_X4_copyFrom (va_Pc [.ref a, .ref b] (Pre D g ([(a, .inr (4, [.int xc, .ref q1, .ref q2, .ref q3, .ref q4])), (q1, .inl (g 0, 20, .inl xaz)), (q2, .inl (g 0, 20, .inl xal)), (q3, .inl (g 0, 20, .inl xai)), (q4, .inl (g 0, 20, .inl xfi)), (b, .inr (4, [.int yc, .ref o1, .ref o2, .ref o3, .ref o4])), (o1, .inl (g 0, 20, .inl yaz)), (o2, .inl (g 0, 20, .inl yal)), (o3, .inl (g 0, 20, .inl yai)), (o4, .inl (g 0, 20, .inl yfi))]) sz)) (va_Qv (fun (_ : Unit) => True) (fun (_ : Unit) t => Bp D g (va_A ([(a, .inr (4, [.int xc, .ref q1, .ref q2, .ref q3, .ref q4])), (q1, .inl (g 0, 20, .inl xaz)), (q2, .inl (g 0, 20, .inl xal)), (q3, .inl (g 0, 20, .inl xai)), (q4, .inl (g 0, 20, .inl xfi)), (b, .inr (4, [.int yc, .ref o1, .ref o2, .ref o3, .ref o4])), (o1, .inl (g 0, 20, .inl yaz)), (o2, .inl (g 0, 20, .inl yal)), (o3, .inl (g 0, 20, .inl yai)), (o4, .inl (g 0, 20, .inl yfi))]) sz) ([(a, .inr (4, [.int yc, .ref q1, .ref q2, .ref q3, .ref q4])), (q1, .inl (g 0, 20, .inl yaz)), (q2, .inl (g 0, 20, .inl yal)), (q3, .inl (g 0, 20, .inl yai)), (q4, .inl (g 0, 20, .inl yfi)), (b, .inr (4, [.int yc, .ref o1, .ref o2, .ref o3, .ref o4])), (o1, .inl (g 0, 20, .inl yaz)), (o2, .inl (g 0, 20, .inl yal)), (o3, .inl (g 0, 20, .inl yai)), (o4, .inl (g 0, 20, .inl yfi))]) t) (va_A ([(a, .inr (4, [.int xc, .ref q1, .ref q2, .ref q3, .ref q4])), (q1, .inl (g 0, 20, .inl xaz)), (q2, .inl (g 0, 20, .inl xal)), (q3, .inl (g 0, 20, .inl xai)), (q4, .inl (g 0, 20, .inl xfi)), (b, .inr (4, [.int yc, .ref o1, .ref o2, .ref o3, .ref o4])), (o1, .inl (g 0, 20, .inl yaz)), (o2, .inl (g 0, 20, .inl yal)), (o3, .inl (g 0, 20, .inl yai)), (o4, .inl (g 0, 20, .inl yfi))]) sz)) 0 0 (va_A ([(a, .inr (4, [.int xc, .ref q1, .ref q2, .ref q3, .ref q4])), (q1, .inl (g 0, 20, .inl xaz)), (q2, .inl (g 0, 20, .inl xal)), (q3, .inl (g 0, 20, .inl xai)), (q4, .inl (g 0, 20, .inl xfi)), (b, .inr (4, [.int yc, .ref o1, .ref o2, .ref o3, .ref o4])), (o1, .inl (g 0, 20, .inl yaz)), (o2, .inl (g 0, 20, .inl yal)), (o3, .inl (g 0, 20, .inl yai)), (o4, .inl (g 0, 20, .inl yfi))]) sz) := by
  refine g_met (av := [.ref a, .ref b]) (QcA := fun A => va_Qv (fun (_ : Unit) => True) (fun (_ : Unit) t => Bp D g A ([(a, .inr (4, [.int yc, .ref q1, .ref q2, .ref q3, .ref q4])), (q1, .inl (g 0, 20, .inl yaz)), (q2, .inl (g 0, 20, .inl yal)), (q3, .inl (g 0, 20, .inl yai)), (q4, .inl (g 0, 20, .inl yfi)), (b, .inr (4, [.int yc, .ref o1, .ref o2, .ref o3, .ref o4])), (o1, .inl (g 0, 20, .inl yaz)), (o2, .inl (g 0, 20, .inl yal)), (o3, .inl (g 0, 20, .inl yai)), (o4, .inl (g 0, 20, .inl yfi))]) t) A) rfl (Nat.le_of_ble_eq_true rfl) ?_
  intro p e s m below meth c A Q ls E M hP hD hS hA hQ hl
  have hx := E.1.1
  have hb := E.1.2.1
  have hl : lv_has ls 2 [(0, .ref a), (1, .ref b)] := hl
  refine lv_aload_n hx hb dX4_copyFrom_0 rfl (lv_at hl 0 rfl) ?_
  refine lv_aload_n hx hb dX4_copyFrom_1 rfl (lv_at hl 1 rfl) ?_
  refine gf_X4_9 E hP 5 rfl rfl dX4_copyFrom_2 ?_
  refine gp_X4_9 E hP hD hS 0 rfl rfl rfl (Nat.le_of_ble_eq_true rfl) dX4_copyFrom_5 (fun H locs hP hD hS => ?_)
  have hP : va_P D vwCl ([(a, .inr (4, [.int yc, .ref q1, .ref q2, .ref q3, .ref q4])), (q1, .inl (g 0, 20, .inl xaz)), (q2, .inl (g 0, 20, .inl xal)), (q3, .inl (g 0, 20, .inl xai)), (q4, .inl (g 0, 20, .inl xfi)), (b, .inr (4, [.int yc, .ref o1, .ref o2, .ref o3, .ref o4])), (o1, .inl (g 0, 20, .inl yaz)), (o2, .inl (g 0, 20, .inl yal)), (o3, .inl (g 0, 20, .inl yai)), (o4, .inl (g 0, 20, .inl yfi))]) H := hP
  have hD : va_D A ([(a, .inr (4, [.int yc, .ref q1, .ref q2, .ref q3, .ref q4])), (q1, .inl (g 0, 20, .inl xaz)), (q2, .inl (g 0, 20, .inl xal)), (q3, .inl (g 0, 20, .inl xai)), (q4, .inl (g 0, 20, .inl xfi)), (b, .inr (4, [.int yc, .ref o1, .ref o2, .ref o3, .ref o4])), (o1, .inl (g 0, 20, .inl yaz)), (o2, .inl (g 0, 20, .inl yal)), (o3, .inl (g 0, 20, .inl yai)), (o4, .inl (g 0, 20, .inl yfi))]) := hD
  refine lv_aload_n hx hb dX4_copyFrom_8 rfl (lv_at hl 1 rfl) ?_
  refine gf_X4_15 E hP 5 rfl rfl dX4_copyFrom_9 ?_
  refine lv_iconst (v := 0) hx hb dX4_copyFrom_12 (by decide) ?_
  refine lv_aload_n hx hb dX4_copyFrom_13 rfl (lv_at hl 0 rfl) ?_
  refine gf_X4_15 E hP 0 rfl rfl dX4_copyFrom_14 ?_
  refine lv_iconst (v := 0) hx hb dX4_copyFrom_17 (by decide) ?_
  refine lv_bipush (v := 20) hx hb dX4_copyFrom_18 (by decide) ?_
  refine gci_X4_28 (n := 20) (n0 := 20) (n1 := 20) E hl.1.symm hP hD hS 6 1 rfl rfl rfl (Nat.le_of_ble_eq_true rfl) (Nat.le_refl _) (Nat.le_refl _) (Nat.le_of_ble_eq_true rfl) (Nat.le_of_ble_eq_true rfl) dX4_copyFrom_20 (fun H locs hP hD hS => ?_)
  have hP : va_P D vwCl ([(a, .inr (4, [.int yc, .ref q1, .ref q2, .ref q3, .ref q4])), (q1, .inl (g 0, 20, .inl (va_cpy yaz xaz 0 0 20))), (q2, .inl (g 0, 20, .inl xal)), (q3, .inl (g 0, 20, .inl xai)), (q4, .inl (g 0, 20, .inl xfi)), (b, .inr (4, [.int yc, .ref o1, .ref o2, .ref o3, .ref o4])), (o1, .inl (g 0, 20, .inl yaz)), (o2, .inl (g 0, 20, .inl yal)), (o3, .inl (g 0, 20, .inl yai)), (o4, .inl (g 0, 20, .inl yfi))]) H := hP
  have hD : va_D A ([(a, .inr (4, [.int yc, .ref q1, .ref q2, .ref q3, .ref q4])), (q1, .inl (g 0, 20, .inl (va_cpy yaz xaz 0 0 20))), (q2, .inl (g 0, 20, .inl xal)), (q3, .inl (g 0, 20, .inl xai)), (q4, .inl (g 0, 20, .inl xfi)), (b, .inr (4, [.int yc, .ref o1, .ref o2, .ref o3, .ref o4])), (o1, .inl (g 0, 20, .inl yaz)), (o2, .inl (g 0, 20, .inl yal)), (o3, .inl (g 0, 20, .inl yai)), (o4, .inl (g 0, 20, .inl yfi))]) := hD
  obtain ⟨hP, hD⟩ := g_contI yaz (q0 := 1) hP hD rfl cpy_in
  have hP : va_P D vwCl ([(a, .inr (4, [.int yc, .ref q1, .ref q2, .ref q3, .ref q4])), (q1, .inl (g 0, 20, .inl yaz)), (q2, .inl (g 0, 20, .inl xal)), (q3, .inl (g 0, 20, .inl xai)), (q4, .inl (g 0, 20, .inl xfi)), (b, .inr (4, [.int yc, .ref o1, .ref o2, .ref o3, .ref o4])), (o1, .inl (g 0, 20, .inl yaz)), (o2, .inl (g 0, 20, .inl yal)), (o3, .inl (g 0, 20, .inl yai)), (o4, .inl (g 0, 20, .inl yfi))]) H := hP
  have hD : va_D A ([(a, .inr (4, [.int yc, .ref q1, .ref q2, .ref q3, .ref q4])), (q1, .inl (g 0, 20, .inl yaz)), (q2, .inl (g 0, 20, .inl xal)), (q3, .inl (g 0, 20, .inl xai)), (q4, .inl (g 0, 20, .inl xfi)), (b, .inr (4, [.int yc, .ref o1, .ref o2, .ref o3, .ref o4])), (o1, .inl (g 0, 20, .inl yaz)), (o2, .inl (g 0, 20, .inl yal)), (o3, .inl (g 0, 20, .inl yai)), (o4, .inl (g 0, 20, .inl yfi))]) := hD
  refine lv_aload_n hx hb dX4_copyFrom_23 rfl (lv_at hl 1 rfl) ?_
  refine gf_X4_19 E hP 5 rfl rfl dX4_copyFrom_24 ?_
  refine lv_iconst (v := 0) hx hb dX4_copyFrom_27 (by decide) ?_
  refine lv_aload_n hx hb dX4_copyFrom_28 rfl (lv_at hl 0 rfl) ?_
  refine gf_X4_19 E hP 0 rfl rfl dX4_copyFrom_29 ?_
  refine lv_iconst (v := 0) hx hb dX4_copyFrom_32 (by decide) ?_
  refine lv_bipush (v := 20) hx hb dX4_copyFrom_33 (by decide) ?_
  refine gci_X4_28 (n := 20) (n0 := 20) (n1 := 20) E hl.1.symm hP hD hS 7 2 rfl rfl rfl (Nat.le_of_ble_eq_true rfl) (Nat.le_refl _) (Nat.le_refl _) (Nat.le_of_ble_eq_true rfl) (Nat.le_of_ble_eq_true rfl) dX4_copyFrom_35 (fun H locs hP hD hS => ?_)
  have hP : va_P D vwCl ([(a, .inr (4, [.int yc, .ref q1, .ref q2, .ref q3, .ref q4])), (q1, .inl (g 0, 20, .inl yaz)), (q2, .inl (g 0, 20, .inl (va_cpy yal xal 0 0 20))), (q3, .inl (g 0, 20, .inl xai)), (q4, .inl (g 0, 20, .inl xfi)), (b, .inr (4, [.int yc, .ref o1, .ref o2, .ref o3, .ref o4])), (o1, .inl (g 0, 20, .inl yaz)), (o2, .inl (g 0, 20, .inl yal)), (o3, .inl (g 0, 20, .inl yai)), (o4, .inl (g 0, 20, .inl yfi))]) H := hP
  have hD : va_D A ([(a, .inr (4, [.int yc, .ref q1, .ref q2, .ref q3, .ref q4])), (q1, .inl (g 0, 20, .inl yaz)), (q2, .inl (g 0, 20, .inl (va_cpy yal xal 0 0 20))), (q3, .inl (g 0, 20, .inl xai)), (q4, .inl (g 0, 20, .inl xfi)), (b, .inr (4, [.int yc, .ref o1, .ref o2, .ref o3, .ref o4])), (o1, .inl (g 0, 20, .inl yaz)), (o2, .inl (g 0, 20, .inl yal)), (o3, .inl (g 0, 20, .inl yai)), (o4, .inl (g 0, 20, .inl yfi))]) := hD
  obtain ⟨hP, hD⟩ := g_contI yal (q0 := 2) hP hD rfl cpy_in
  have hP : va_P D vwCl ([(a, .inr (4, [.int yc, .ref q1, .ref q2, .ref q3, .ref q4])), (q1, .inl (g 0, 20, .inl yaz)), (q2, .inl (g 0, 20, .inl yal)), (q3, .inl (g 0, 20, .inl xai)), (q4, .inl (g 0, 20, .inl xfi)), (b, .inr (4, [.int yc, .ref o1, .ref o2, .ref o3, .ref o4])), (o1, .inl (g 0, 20, .inl yaz)), (o2, .inl (g 0, 20, .inl yal)), (o3, .inl (g 0, 20, .inl yai)), (o4, .inl (g 0, 20, .inl yfi))]) H := hP
  have hD : va_D A ([(a, .inr (4, [.int yc, .ref q1, .ref q2, .ref q3, .ref q4])), (q1, .inl (g 0, 20, .inl yaz)), (q2, .inl (g 0, 20, .inl yal)), (q3, .inl (g 0, 20, .inl xai)), (q4, .inl (g 0, 20, .inl xfi)), (b, .inr (4, [.int yc, .ref o1, .ref o2, .ref o3, .ref o4])), (o1, .inl (g 0, 20, .inl yaz)), (o2, .inl (g 0, 20, .inl yal)), (o3, .inl (g 0, 20, .inl yai)), (o4, .inl (g 0, 20, .inl yfi))]) := hD
  refine lv_aload_n hx hb dX4_copyFrom_38 rfl (lv_at hl 1 rfl) ?_
  refine gf_X4_22 E hP 5 rfl rfl dX4_copyFrom_39 ?_
  refine lv_iconst (v := 0) hx hb dX4_copyFrom_42 (by decide) ?_
  refine lv_aload_n hx hb dX4_copyFrom_43 rfl (lv_at hl 0 rfl) ?_
  refine gf_X4_22 E hP 0 rfl rfl dX4_copyFrom_44 ?_
  refine lv_iconst (v := 0) hx hb dX4_copyFrom_47 (by decide) ?_
  refine lv_bipush (v := 20) hx hb dX4_copyFrom_48 (by decide) ?_
  refine gci_X4_28 (n := 20) (n0 := 20) (n1 := 20) E hl.1.symm hP hD hS 8 3 rfl rfl rfl (Nat.le_of_ble_eq_true rfl) (Nat.le_refl _) (Nat.le_refl _) (Nat.le_of_ble_eq_true rfl) (Nat.le_of_ble_eq_true rfl) dX4_copyFrom_50 (fun H locs hP hD hS => ?_)
  have hP : va_P D vwCl ([(a, .inr (4, [.int yc, .ref q1, .ref q2, .ref q3, .ref q4])), (q1, .inl (g 0, 20, .inl yaz)), (q2, .inl (g 0, 20, .inl yal)), (q3, .inl (g 0, 20, .inl (va_cpy yai xai 0 0 20))), (q4, .inl (g 0, 20, .inl xfi)), (b, .inr (4, [.int yc, .ref o1, .ref o2, .ref o3, .ref o4])), (o1, .inl (g 0, 20, .inl yaz)), (o2, .inl (g 0, 20, .inl yal)), (o3, .inl (g 0, 20, .inl yai)), (o4, .inl (g 0, 20, .inl yfi))]) H := hP
  have hD : va_D A ([(a, .inr (4, [.int yc, .ref q1, .ref q2, .ref q3, .ref q4])), (q1, .inl (g 0, 20, .inl yaz)), (q2, .inl (g 0, 20, .inl yal)), (q3, .inl (g 0, 20, .inl (va_cpy yai xai 0 0 20))), (q4, .inl (g 0, 20, .inl xfi)), (b, .inr (4, [.int yc, .ref o1, .ref o2, .ref o3, .ref o4])), (o1, .inl (g 0, 20, .inl yaz)), (o2, .inl (g 0, 20, .inl yal)), (o3, .inl (g 0, 20, .inl yai)), (o4, .inl (g 0, 20, .inl yfi))]) := hD
  obtain ⟨hP, hD⟩ := g_contI yai (q0 := 3) hP hD rfl cpy_in
  have hP : va_P D vwCl ([(a, .inr (4, [.int yc, .ref q1, .ref q2, .ref q3, .ref q4])), (q1, .inl (g 0, 20, .inl yaz)), (q2, .inl (g 0, 20, .inl yal)), (q3, .inl (g 0, 20, .inl yai)), (q4, .inl (g 0, 20, .inl xfi)), (b, .inr (4, [.int yc, .ref o1, .ref o2, .ref o3, .ref o4])), (o1, .inl (g 0, 20, .inl yaz)), (o2, .inl (g 0, 20, .inl yal)), (o3, .inl (g 0, 20, .inl yai)), (o4, .inl (g 0, 20, .inl yfi))]) H := hP
  have hD : va_D A ([(a, .inr (4, [.int yc, .ref q1, .ref q2, .ref q3, .ref q4])), (q1, .inl (g 0, 20, .inl yaz)), (q2, .inl (g 0, 20, .inl yal)), (q3, .inl (g 0, 20, .inl yai)), (q4, .inl (g 0, 20, .inl xfi)), (b, .inr (4, [.int yc, .ref o1, .ref o2, .ref o3, .ref o4])), (o1, .inl (g 0, 20, .inl yaz)), (o2, .inl (g 0, 20, .inl yal)), (o3, .inl (g 0, 20, .inl yai)), (o4, .inl (g 0, 20, .inl yfi))]) := hD
  refine lv_aload_n hx hb dX4_copyFrom_53 rfl (lv_at hl 1 rfl) ?_
  refine gf_X4_25 E hP 5 rfl rfl dX4_copyFrom_54 ?_
  refine lv_iconst (v := 0) hx hb dX4_copyFrom_57 (by decide) ?_
  refine lv_aload_n hx hb dX4_copyFrom_58 rfl (lv_at hl 0 rfl) ?_
  refine gf_X4_25 E hP 0 rfl rfl dX4_copyFrom_59 ?_
  refine lv_iconst (v := 0) hx hb dX4_copyFrom_62 (by decide) ?_
  refine lv_bipush (v := 20) hx hb dX4_copyFrom_63 (by decide) ?_
  refine gci_X4_28 (n := 20) (n0 := 20) (n1 := 20) E hl.1.symm hP hD hS 9 4 rfl rfl rfl (Nat.le_of_ble_eq_true rfl) (Nat.le_refl _) (Nat.le_refl _) (Nat.le_of_ble_eq_true rfl) (Nat.le_of_ble_eq_true rfl) dX4_copyFrom_65 (fun H locs hP hD hS => ?_)
  have hP : va_P D vwCl ([(a, .inr (4, [.int yc, .ref q1, .ref q2, .ref q3, .ref q4])), (q1, .inl (g 0, 20, .inl yaz)), (q2, .inl (g 0, 20, .inl yal)), (q3, .inl (g 0, 20, .inl yai)), (q4, .inl (g 0, 20, .inl (va_cpy yfi xfi 0 0 20))), (b, .inr (4, [.int yc, .ref o1, .ref o2, .ref o3, .ref o4])), (o1, .inl (g 0, 20, .inl yaz)), (o2, .inl (g 0, 20, .inl yal)), (o3, .inl (g 0, 20, .inl yai)), (o4, .inl (g 0, 20, .inl yfi))]) H := hP
  have hD : va_D A ([(a, .inr (4, [.int yc, .ref q1, .ref q2, .ref q3, .ref q4])), (q1, .inl (g 0, 20, .inl yaz)), (q2, .inl (g 0, 20, .inl yal)), (q3, .inl (g 0, 20, .inl yai)), (q4, .inl (g 0, 20, .inl (va_cpy yfi xfi 0 0 20))), (b, .inr (4, [.int yc, .ref o1, .ref o2, .ref o3, .ref o4])), (o1, .inl (g 0, 20, .inl yaz)), (o2, .inl (g 0, 20, .inl yal)), (o3, .inl (g 0, 20, .inl yai)), (o4, .inl (g 0, 20, .inl yfi))]) := hD
  obtain ⟨hP, hD⟩ := g_contI yfi (q0 := 4) hP hD rfl cpy_in
  have hP : va_P D vwCl ([(a, .inr (4, [.int yc, .ref q1, .ref q2, .ref q3, .ref q4])), (q1, .inl (g 0, 20, .inl yaz)), (q2, .inl (g 0, 20, .inl yal)), (q3, .inl (g 0, 20, .inl yai)), (q4, .inl (g 0, 20, .inl yfi)), (b, .inr (4, [.int yc, .ref o1, .ref o2, .ref o3, .ref o4])), (o1, .inl (g 0, 20, .inl yaz)), (o2, .inl (g 0, 20, .inl yal)), (o3, .inl (g 0, 20, .inl yai)), (o4, .inl (g 0, 20, .inl yfi))]) H := hP
  have hD : va_D A ([(a, .inr (4, [.int yc, .ref q1, .ref q2, .ref q3, .ref q4])), (q1, .inl (g 0, 20, .inl yaz)), (q2, .inl (g 0, 20, .inl yal)), (q3, .inl (g 0, 20, .inl yai)), (q4, .inl (g 0, 20, .inl yfi)), (b, .inr (4, [.int yc, .ref o1, .ref o2, .ref o3, .ref o4])), (o1, .inl (g 0, 20, .inl yaz)), (o2, .inl (g 0, 20, .inl yal)), (o3, .inl (g 0, 20, .inl yai)), (o4, .inl (g 0, 20, .inl yfi))]) := hD
  exact g_vret hQ E M rfl hS hP hD () rfl (trivial) dX4_copyFrom_68
abbrev rm_X4_put : Room := { frames := 0, cells := 0, slots := 0, locals := 0 }
set_option maxHeartbeats 600000 in
set_option maxRecDepth 100000 in
theorem CX4_put (l : Launch) (D : va_G) (g : Nat → ClassId) (sz : Nat) (a q1 q2 q3 q4 : Nat) (xaz xal xai xfi : Nat → Int32) (n : Nat) (z h : Int32) (hn : n < 20) : Met l yX4_put (Cond.code yX4_put prog_6_method_3_code 4 (some .int) :: WA) rm_X4_put (va_Pc [.ref a, .int z, .int h] (Pre D g ([(a, .inr (4, [.int (nI n), .ref q1, .ref q2, .ref q3, .ref q4])), (q1, .inl (g 0, 20, .inl xaz)), (q2, .inl (g 0, 20, .inl xal)), (q3, .inl (g 0, 20, .inl xai)), (q4, .inl (g 0, 20, .inl xfi))]) sz)) (va_Qi (fun (r : Int32) (_ : Unit) => r = (nI n)) (fun (_ : Unit) t => Bp D g (va_A ([(a, .inr (4, [.int (nI n), .ref q1, .ref q2, .ref q3, .ref q4])), (q1, .inl (g 0, 20, .inl xaz)), (q2, .inl (g 0, 20, .inl xal)), (q3, .inl (g 0, 20, .inl xai)), (q4, .inl (g 0, 20, .inl xfi))]) sz) ([(a, .inr (4, [.int (nI (n + 1)), .ref q1, .ref q2, .ref q3, .ref q4])), (q1, .inl (g 0, 20, .inl (upd xaz n z))), (q2, .inl (g 0, 20, .inl (upd xal n h))), (q3, .inl (g 0, 20, .inl xai)), (q4, .inl (g 0, 20, .inl xfi))]) t) (va_A ([(a, .inr (4, [.int (nI n), .ref q1, .ref q2, .ref q3, .ref q4])), (q1, .inl (g 0, 20, .inl xaz)), (q2, .inl (g 0, 20, .inl xal)), (q3, .inl (g 0, 20, .inl xai)), (q4, .inl (g 0, 20, .inl xfi))]) sz)) 0 0 (va_A ([(a, .inr (4, [.int (nI n), .ref q1, .ref q2, .ref q3, .ref q4])), (q1, .inl (g 0, 20, .inl xaz)), (q2, .inl (g 0, 20, .inl xal)), (q3, .inl (g 0, 20, .inl xai)), (q4, .inl (g 0, 20, .inl xfi))]) sz) := by
  refine g_met (av := [.ref a, .int z, .int h]) (QcA := fun A => va_Qi (fun (r : Int32) (_ : Unit) => r = (nI n)) (fun (_ : Unit) t => Bp D g A ([(a, .inr (4, [.int (nI (n + 1)), .ref q1, .ref q2, .ref q3, .ref q4])), (q1, .inl (g 0, 20, .inl (upd xaz n z))), (q2, .inl (g 0, 20, .inl (upd xal n h))), (q3, .inl (g 0, 20, .inl xai)), (q4, .inl (g 0, 20, .inl xfi))]) t) A) rfl (Nat.le_of_ble_eq_true rfl) ?_
  intro p e s m below meth c A Q ls E M hP hD hS hA hQ hl
  have hx := E.1.1
  have hb := E.1.2.1
  have hl : lv_has ls 4 [(0, .ref a), (1, .int z), (2, .int h)] := hl
  refine lv_aload_n hx hb dX4_put_0 rfl (lv_at hl 0 rfl) ?_
  refine gf_X4_9 E hP 0 rfl rfl dX4_put_1 ?_
  refine lv_istore_n (lv' := [(3, .int (nI n)), (0, .ref a), (1, .int z), (2, .int h)]) hx hb dX4_put_4 rfl hl (by decide) rfl (fun ls hl => ?_)
  refine lv_aload_n hx hb dX4_put_5 rfl (lv_at hl 1 rfl) ?_
  refine gf_X4_15 E hP 0 rfl rfl dX4_put_6 ?_
  refine lv_iload_n hx hb dX4_put_9 rfl (lv_at hl 0 rfl) ?_
  refine lv_iload_n hx hb dX4_put_10 rfl (lv_at hl 2 rfl) ?_
  refine g_iast E hP hD hS 1 rfl n rfl (by omega) (Nat.le_of_ble_eq_true rfl) dX4_put_11 (fun H locs hP hD hS => ?_)
  have hP : va_P D vwCl ([(a, .inr (4, [.int (nI n), .ref q1, .ref q2, .ref q3, .ref q4])), (q1, .inl (g 0, 20, .inl (upd xaz n z))), (q2, .inl (g 0, 20, .inl xal)), (q3, .inl (g 0, 20, .inl xai)), (q4, .inl (g 0, 20, .inl xfi))]) H := hP
  have hD : va_D A ([(a, .inr (4, [.int (nI n), .ref q1, .ref q2, .ref q3, .ref q4])), (q1, .inl (g 0, 20, .inl (upd xaz n z))), (q2, .inl (g 0, 20, .inl xal)), (q3, .inl (g 0, 20, .inl xai)), (q4, .inl (g 0, 20, .inl xfi))]) := hD
  refine lv_aload_n hx hb dX4_put_12 rfl (lv_at hl 1 rfl) ?_
  refine gf_X4_19 E hP 0 rfl rfl dX4_put_13 ?_
  refine lv_iload_n hx hb dX4_put_16 rfl (lv_at hl 0 rfl) ?_
  refine lv_iload_n hx hb dX4_put_17 rfl (lv_at hl 3 rfl) ?_
  refine g_iast E hP hD hS 2 rfl n rfl (by omega) (Nat.le_of_ble_eq_true rfl) dX4_put_18 (fun H locs hP hD hS => ?_)
  have hP : va_P D vwCl ([(a, .inr (4, [.int (nI n), .ref q1, .ref q2, .ref q3, .ref q4])), (q1, .inl (g 0, 20, .inl (upd xaz n z))), (q2, .inl (g 0, 20, .inl (upd xal n h))), (q3, .inl (g 0, 20, .inl xai)), (q4, .inl (g 0, 20, .inl xfi))]) H := hP
  have hD : va_D A ([(a, .inr (4, [.int (nI n), .ref q1, .ref q2, .ref q3, .ref q4])), (q1, .inl (g 0, 20, .inl (upd xaz n z))), (q2, .inl (g 0, 20, .inl (upd xal n h))), (q3, .inl (g 0, 20, .inl xai)), (q4, .inl (g 0, 20, .inl xfi))]) := hD
  refine lv_aload_n hx hb dX4_put_19 rfl (lv_at hl 1 rfl) ?_
  refine lv_dup hx hb dX4_put_20 rfl ?_
  refine gf_X4_9 E hP 0 rfl rfl dX4_put_21 ?_
  refine lv_iconst (v := 1) hx hb dX4_put_24 (by decide) ?_
  refine lv_iadd hx hb dX4_put_25 ?_
  refine gp_X4_9 E hP hD hS 0 rfl rfl rfl (Nat.le_of_ble_eq_true rfl) dX4_put_26 (fun H locs hP hD hS => ?_)
  have hP : va_P D vwCl ([(a, .inr (4, [.int ((nI n) + 1), .ref q1, .ref q2, .ref q3, .ref q4])), (q1, .inl (g 0, 20, .inl (upd xaz n z))), (q2, .inl (g 0, 20, .inl (upd xal n h))), (q3, .inl (g 0, 20, .inl xai)), (q4, .inl (g 0, 20, .inl xfi))]) H := hP
  have hD : va_D A ([(a, .inr (4, [.int ((nI n) + 1), .ref q1, .ref q2, .ref q3, .ref q4])), (q1, .inl (g 0, 20, .inl (upd xaz n z))), (q2, .inl (g 0, 20, .inl (upd xal n h))), (q3, .inl (g 0, 20, .inl xai)), (q4, .inl (g 0, 20, .inl xfi))]) := hD
  obtain ⟨hP, hD⟩ := g_world hP hD (show ([(a, .inr (4, [.int ((nI n) + 1), .ref q1, .ref q2, .ref q3, .ref q4])), (q1, .inl (g 0, 20, .inl (upd xaz n z))), (q2, .inl (g 0, 20, .inl (upd xal n h))), (q3, .inl (g 0, 20, .inl xai)), (q4, .inl (g 0, 20, .inl xfi))] : va_W) = [(a, .inr (4, [.int (nI (n + 1)), .ref q1, .ref q2, .ref q3, .ref q4])), (q1, .inl (g 0, 20, .inl (upd xaz n z))), (q2, .inl (g 0, 20, .inl (upd xal n h))), (q3, .inl (g 0, 20, .inl xai)), (q4, .inl (g 0, 20, .inl xfi))] from by rw [show nI n + 1 = nI (n + 1) from nI_1 n])
  refine lv_iload_n hx hb dX4_put_29 rfl (lv_at hl 0 rfl) ?_
  exact g_iret hQ E M rfl hS hP hD () rfl (rfl) dX4_put_30
abbrev rm_X4_sideOf : Room := { frames := 0, cells := 0, slots := 0, locals := 0 }
set_option maxHeartbeats 600000 in
set_option maxRecDepth 100000 in
theorem CX4_sideOf (l : Launch) (D : va_G) (g : Nat → ClassId) (sz : Nat) (a q1 q2 q3 q4 : Nat) (xc : Int32) (xaz xal xai xfi : Nat → Int32) (k : Nat) (hk : k < 20) : Met l yX4_sideOf (Cond.code yX4_sideOf prog_6_method_4_code 2 (some .int) :: WA) rm_X4_sideOf (va_Pc [.ref a, .int (nI k)] (Pre D g ([(a, .inr (4, [.int xc, .ref q1, .ref q2, .ref q3, .ref q4])), (q1, .inl (g 0, 20, .inl xaz)), (q2, .inl (g 0, 20, .inl xal)), (q3, .inl (g 0, 20, .inl xai)), (q4, .inl (g 0, 20, .inl xfi))]) sz)) (va_Qi (fun (r : Int32) (_ : Unit) => r = (sdF (xaz k))) (fun (_ : Unit) t => Bp D g (va_A ([(a, .inr (4, [.int xc, .ref q1, .ref q2, .ref q3, .ref q4])), (q1, .inl (g 0, 20, .inl xaz)), (q2, .inl (g 0, 20, .inl xal)), (q3, .inl (g 0, 20, .inl xai)), (q4, .inl (g 0, 20, .inl xfi))]) sz) ([(a, .inr (4, [.int xc, .ref q1, .ref q2, .ref q3, .ref q4])), (q1, .inl (g 0, 20, .inl xaz)), (q2, .inl (g 0, 20, .inl xal)), (q3, .inl (g 0, 20, .inl xai)), (q4, .inl (g 0, 20, .inl xfi))]) t) (va_A ([(a, .inr (4, [.int xc, .ref q1, .ref q2, .ref q3, .ref q4])), (q1, .inl (g 0, 20, .inl xaz)), (q2, .inl (g 0, 20, .inl xal)), (q3, .inl (g 0, 20, .inl xai)), (q4, .inl (g 0, 20, .inl xfi))]) sz)) 0 0 (va_A ([(a, .inr (4, [.int xc, .ref q1, .ref q2, .ref q3, .ref q4])), (q1, .inl (g 0, 20, .inl xaz)), (q2, .inl (g 0, 20, .inl xal)), (q3, .inl (g 0, 20, .inl xai)), (q4, .inl (g 0, 20, .inl xfi))]) sz) := by
  refine g_met (av := [.ref a, .int (nI k)]) (QcA := fun A => va_Qi (fun (r : Int32) (_ : Unit) => r = (sdF (xaz k))) (fun (_ : Unit) t => Bp D g A ([(a, .inr (4, [.int xc, .ref q1, .ref q2, .ref q3, .ref q4])), (q1, .inl (g 0, 20, .inl xaz)), (q2, .inl (g 0, 20, .inl xal)), (q3, .inl (g 0, 20, .inl xai)), (q4, .inl (g 0, 20, .inl xfi))]) t) A) rfl (Nat.le_of_ble_eq_true rfl) ?_
  intro p e s m below meth c A Q ls E M hP hD hS hA hQ hl
  have hx := E.1.1
  have hb := E.1.2.1
  have hl : lv_has ls 2 [(0, .ref a), (1, .int (nI k))] := hl
  refine lv_aload_n hx hb dX4_sideOf_0 rfl (lv_at hl 0 rfl) ?_
  refine gf_X4_15 E hP 0 rfl rfl dX4_sideOf_1 ?_
  refine lv_iload_n hx hb dX4_sideOf_4 rfl (lv_at hl 1 rfl) ?_
  refine g_iald E hP 1 rfl k rfl (by omega) (Nat.le_of_ble_eq_true rfl) dX4_sideOf_5 ?_
  refine lv_sipush (v := 10800) hx hb dX4_sideOf_6 (by decide) ?_
  refine lv_icmp_ge (tgt := 16) hx hb dX4_sideOf_9 (by decide) (fun c_9 => ?_) (fun c_9 => ?_)
  · skip
    refine lv_iconst (v := 1) hx hb dX4_sideOf_16 (by decide) ?_
    have hL : (1 : Int32) = (sdF (xaz k)) := by simp only [sdF, if_pos c_9]
    exact g_iret hQ E M rfl hS hP hD () rfl (hL) dX4_sideOf_17
  · skip
    refine lv_iconst (v := 0) hx hb dX4_sideOf_12 (by decide) ?_
    refine lv_goto (tgt := 17) hx hb dX4_sideOf_13 (by decide) ?_
    have hL : (0 : Int32) = (sdF (xaz k)) := by simp only [sdF, if_neg c_9]
    exact g_iret hQ E M rfl hS hP hD () rfl (hL) dX4_sideOf_17
abbrev rm_X4_regionOf : Room := { frames := 0, cells := 0, slots := 0, locals := 0 }
set_option maxHeartbeats 600000 in
set_option maxRecDepth 100000 in
theorem CX4_regionOf (l : Launch) (D : va_G) (g : Nat → ClassId) (sz : Nat) (a q1 q2 q3 q4 : Nat) (xc : Int32) (xaz xal xai xfi : Nat → Int32) (k : Nat) (hk : k < 20) : Met l yX4_regionOf (Cond.code yX4_regionOf prog_6_method_5_code 2 (some .int) :: WA) rm_X4_regionOf (va_Pc [.ref a, .int (nI k)] (Pre D g ([(a, .inr (4, [.int xc, .ref q1, .ref q2, .ref q3, .ref q4])), (q1, .inl (g 0, 20, .inl xaz)), (q2, .inl (g 0, 20, .inl xal)), (q3, .inl (g 0, 20, .inl xai)), (q4, .inl (g 0, 20, .inl xfi))]) sz)) (va_Qi (fun (r : Int32) (_ : Unit) => r = (rgF (xaz k) (xal k))) (fun (_ : Unit) t => Bp D g (va_A ([(a, .inr (4, [.int xc, .ref q1, .ref q2, .ref q3, .ref q4])), (q1, .inl (g 0, 20, .inl xaz)), (q2, .inl (g 0, 20, .inl xal)), (q3, .inl (g 0, 20, .inl xai)), (q4, .inl (g 0, 20, .inl xfi))]) sz) ([(a, .inr (4, [.int xc, .ref q1, .ref q2, .ref q3, .ref q4])), (q1, .inl (g 0, 20, .inl xaz)), (q2, .inl (g 0, 20, .inl xal)), (q3, .inl (g 0, 20, .inl xai)), (q4, .inl (g 0, 20, .inl xfi))]) t) (va_A ([(a, .inr (4, [.int xc, .ref q1, .ref q2, .ref q3, .ref q4])), (q1, .inl (g 0, 20, .inl xaz)), (q2, .inl (g 0, 20, .inl xal)), (q3, .inl (g 0, 20, .inl xai)), (q4, .inl (g 0, 20, .inl xfi))]) sz)) 0 0 (va_A ([(a, .inr (4, [.int xc, .ref q1, .ref q2, .ref q3, .ref q4])), (q1, .inl (g 0, 20, .inl xaz)), (q2, .inl (g 0, 20, .inl xal)), (q3, .inl (g 0, 20, .inl xai)), (q4, .inl (g 0, 20, .inl xfi))]) sz) := by
  refine g_met (av := [.ref a, .int (nI k)]) (QcA := fun A => va_Qi (fun (r : Int32) (_ : Unit) => r = (rgF (xaz k) (xal k))) (fun (_ : Unit) t => Bp D g A ([(a, .inr (4, [.int xc, .ref q1, .ref q2, .ref q3, .ref q4])), (q1, .inl (g 0, 20, .inl xaz)), (q2, .inl (g 0, 20, .inl xal)), (q3, .inl (g 0, 20, .inl xai)), (q4, .inl (g 0, 20, .inl xfi))]) t) A) rfl (Nat.le_of_ble_eq_true rfl) ?_
  intro p e s m below meth c A Q ls E M hP hD hS hA hQ hl
  have hx := E.1.1
  have hb := E.1.2.1
  have hl : lv_has ls 2 [(0, .ref a), (1, .int (nI k))] := hl
  refine lv_iconst (v := 3) hx hb dX4_regionOf_0 (by decide) ?_
  refine lv_aload_n hx hb dX4_regionOf_1 rfl (lv_at hl 0 rfl) ?_
  refine gf_X4_15 E hP 0 rfl rfl dX4_regionOf_2 ?_
  refine lv_iload_n hx hb dX4_regionOf_5 rfl (lv_at hl 1 rfl) ?_
  refine g_iald E hP 1 rfl k rfl (by omega) (Nat.le_of_ble_eq_true rfl) dX4_regionOf_6 ?_
  refine lv_sipush (v := 2700) hx hb dX4_regionOf_7 (by decide) ?_
  refine lv_idiv hx hb dX4_regionOf_10 (by decide) ?_
  refine lv_imul hx hb dX4_regionOf_11 ?_
  refine lv_aload_n hx hb dX4_regionOf_12 rfl (lv_at hl 0 rfl) ?_
  refine gf_X4_19 E hP 0 rfl rfl dX4_regionOf_13 ?_
  refine lv_iload_n hx hb dX4_regionOf_16 rfl (lv_at hl 1 rfl) ?_
  refine g_iald E hP 2 rfl k rfl (by omega) (Nat.le_of_ble_eq_true rfl) dX4_regionOf_17 ?_
  refine lv_sipush (v := 1801) hx hb dX4_regionOf_18 (by decide) ?_
  refine lv_idiv hx hb dX4_regionOf_21 (by decide) ?_
  refine lv_iadd hx hb dX4_regionOf_22 ?_
  exact g_iret hQ E M rfl hS hP hD () rfl (rfl) dX4_regionOf_23
abbrev rm_X4_countAim : Room := { frames := 0, cells := 0, slots := 0, locals := 0 }
set_option maxHeartbeats 600000 in
set_option maxRecDepth 100000 in
theorem CX4_countAim (l : Launch) (D : va_G) (g : Nat → ClassId) (sz : Nat) (a q1 q2 q3 q4 : Nat) (xc : Int32) (xaz xal xai xfi : Nat → Int32) (k : Nat) (z : Int32) (hk : k < 20) : Met l yX4_countAim (Cond.code yX4_countAim prog_6_method_6_code 3 none :: WA) rm_X4_countAim (va_Pc [.ref a, .int (nI k), .int z] (Pre D g ([(a, .inr (4, [.int xc, .ref q1, .ref q2, .ref q3, .ref q4])), (q1, .inl (g 0, 20, .inl xaz)), (q2, .inl (g 0, 20, .inl xal)), (q3, .inl (g 0, 20, .inl xai)), (q4, .inl (g 0, 20, .inl xfi))]) sz)) (va_Qv (fun (_ : Unit) => True) (fun (_ : Unit) t => Bp D g (va_A ([(a, .inr (4, [.int xc, .ref q1, .ref q2, .ref q3, .ref q4])), (q1, .inl (g 0, 20, .inl xaz)), (q2, .inl (g 0, 20, .inl xal)), (q3, .inl (g 0, 20, .inl xai)), (q4, .inl (g 0, 20, .inl xfi))]) sz) ([(a, .inr (4, [.int xc, .ref q1, .ref q2, .ref q3, .ref q4])), (q1, .inl (g 0, 20, .inl xaz)), (q2, .inl (g 0, 20, .inl xal)), (q3, .inl (g 0, 20, .inl (upd xai k (xai k + 1)))), (q4, .inl (g 0, 20, .inl (if z = 0 then xfi else upd xfi k (xfi k + 1))))]) t) (va_A ([(a, .inr (4, [.int xc, .ref q1, .ref q2, .ref q3, .ref q4])), (q1, .inl (g 0, 20, .inl xaz)), (q2, .inl (g 0, 20, .inl xal)), (q3, .inl (g 0, 20, .inl xai)), (q4, .inl (g 0, 20, .inl xfi))]) sz)) 0 0 (va_A ([(a, .inr (4, [.int xc, .ref q1, .ref q2, .ref q3, .ref q4])), (q1, .inl (g 0, 20, .inl xaz)), (q2, .inl (g 0, 20, .inl xal)), (q3, .inl (g 0, 20, .inl xai)), (q4, .inl (g 0, 20, .inl xfi))]) sz) := by
  refine g_met (av := [.ref a, .int (nI k), .int z]) (QcA := fun A => va_Qv (fun (_ : Unit) => True) (fun (_ : Unit) t => Bp D g A ([(a, .inr (4, [.int xc, .ref q1, .ref q2, .ref q3, .ref q4])), (q1, .inl (g 0, 20, .inl xaz)), (q2, .inl (g 0, 20, .inl xal)), (q3, .inl (g 0, 20, .inl (upd xai k (xai k + 1)))), (q4, .inl (g 0, 20, .inl (if z = 0 then xfi else upd xfi k (xfi k + 1))))]) t) A) rfl (Nat.le_of_ble_eq_true rfl) ?_
  intro p e s m below meth c A Q ls E M hP hD hS hA hQ hl
  have hx := E.1.1
  have hb := E.1.2.1
  have hl : lv_has ls 3 [(0, .ref a), (1, .int (nI k)), (2, .int z)] := hl
  refine lv_aload_n hx hb dX4_countAim_0 rfl (lv_at hl 0 rfl) ?_
  refine gf_X4_22 E hP 0 rfl rfl dX4_countAim_1 ?_
  refine lv_iload_n hx hb dX4_countAim_4 rfl (lv_at hl 1 rfl) ?_
  refine lv_dup2_11 hx hb dX4_countAim_5 rfl rfl ?_
  refine g_iald E hP 3 rfl k rfl (by omega) (Nat.le_of_ble_eq_true rfl) dX4_countAim_6 ?_
  refine lv_iconst (v := 1) hx hb dX4_countAim_7 (by decide) ?_
  refine lv_iadd hx hb dX4_countAim_8 ?_
  refine g_iast E hP hD hS 3 rfl k rfl (by omega) (Nat.le_of_ble_eq_true rfl) dX4_countAim_9 (fun H locs hP hD hS => ?_)
  have hP : va_P D vwCl ([(a, .inr (4, [.int xc, .ref q1, .ref q2, .ref q3, .ref q4])), (q1, .inl (g 0, 20, .inl xaz)), (q2, .inl (g 0, 20, .inl xal)), (q3, .inl (g 0, 20, .inl (upd xai k ((xai k) + 1)))), (q4, .inl (g 0, 20, .inl xfi))]) H := hP
  have hD : va_D A ([(a, .inr (4, [.int xc, .ref q1, .ref q2, .ref q3, .ref q4])), (q1, .inl (g 0, 20, .inl xaz)), (q2, .inl (g 0, 20, .inl xal)), (q3, .inl (g 0, 20, .inl (upd xai k ((xai k) + 1)))), (q4, .inl (g 0, 20, .inl xfi))]) := hD
  refine lv_iload_n hx hb dX4_countAim_10 rfl (lv_at hl 2 rfl) ?_
  refine lv_if_eq (tgt := 24) hx hb dX4_countAim_11 (by decide) (fun c_11 => ?_) (fun c_11 => ?_)
  · skip
    exact g_vret hQ E M rfl hS hP hD () (by simp only [if_pos c_11]) (trivial) dX4_countAim_24
  · skip
    refine lv_aload_n hx hb dX4_countAim_14 rfl (lv_at hl 0 rfl) ?_
    refine gf_X4_25 E hP 0 rfl rfl dX4_countAim_15 ?_
    refine lv_iload_n hx hb dX4_countAim_18 rfl (lv_at hl 1 rfl) ?_
    refine lv_dup2_11 hx hb dX4_countAim_19 rfl rfl ?_
    refine g_iald E hP 4 rfl k rfl (by omega) (Nat.le_of_ble_eq_true rfl) dX4_countAim_20 ?_
    refine lv_iconst (v := 1) hx hb dX4_countAim_21 (by decide) ?_
    refine lv_iadd hx hb dX4_countAim_22 ?_
    refine g_iast E hP hD hS 4 rfl k rfl (by omega) (Nat.le_of_ble_eq_true rfl) dX4_countAim_23 (fun H locs hP hD hS => ?_)
    have hP : va_P D vwCl ([(a, .inr (4, [.int xc, .ref q1, .ref q2, .ref q3, .ref q4])), (q1, .inl (g 0, 20, .inl xaz)), (q2, .inl (g 0, 20, .inl xal)), (q3, .inl (g 0, 20, .inl (upd xai k ((xai k) + 1)))), (q4, .inl (g 0, 20, .inl (upd xfi k ((xfi k) + 1))))]) H := hP
    have hD : va_D A ([(a, .inr (4, [.int xc, .ref q1, .ref q2, .ref q3, .ref q4])), (q1, .inl (g 0, 20, .inl xaz)), (q2, .inl (g 0, 20, .inl xal)), (q3, .inl (g 0, 20, .inl (upd xai k ((xai k) + 1)))), (q4, .inl (g 0, 20, .inl (upd xfi k ((xfi k) + 1))))]) := hD
    exact g_vret hQ E M rfl hS hP hD () (by simp only [if_neg c_11]) (trivial) dX4_countAim_24
abbrev rm_X4_allAims : Room := { frames := 0, cells := 0, slots := 0, locals := 0 }
set_option maxHeartbeats 600000 in
set_option maxRecDepth 100000 in
theorem CX4_allAims (l : Launch) (D : va_G) (g : Nat → ClassId) (sz : Nat) (a q1 q2 q3 q4 : Nat) (xaz xal xai xfi : Nat → Int32) (n : Nat) (hn : n ≤ 20) : Met l yX4_allAims (Cond.code yX4_allAims prog_6_method_7_code 3 (some .int) :: WA) rm_X4_allAims (va_Pc [.ref a] (Pre D g ([(a, .inr (4, [.int (nI n), .ref q1, .ref q2, .ref q3, .ref q4])), (q1, .inl (g 0, 20, .inl xaz)), (q2, .inl (g 0, 20, .inl xal)), (q3, .inl (g 0, 20, .inl xai)), (q4, .inl (g 0, 20, .inl xfi))]) sz)) (va_Qi (fun (r : Int32) (_ : Unit) => r = (sumI xai n)) (fun (_ : Unit) t => Bp D g (va_A ([(a, .inr (4, [.int (nI n), .ref q1, .ref q2, .ref q3, .ref q4])), (q1, .inl (g 0, 20, .inl xaz)), (q2, .inl (g 0, 20, .inl xal)), (q3, .inl (g 0, 20, .inl xai)), (q4, .inl (g 0, 20, .inl xfi))]) sz) ([(a, .inr (4, [.int (nI n), .ref q1, .ref q2, .ref q3, .ref q4])), (q1, .inl (g 0, 20, .inl xaz)), (q2, .inl (g 0, 20, .inl xal)), (q3, .inl (g 0, 20, .inl xai)), (q4, .inl (g 0, 20, .inl xfi))]) t) (va_A ([(a, .inr (4, [.int (nI n), .ref q1, .ref q2, .ref q3, .ref q4])), (q1, .inl (g 0, 20, .inl xaz)), (q2, .inl (g 0, 20, .inl xal)), (q3, .inl (g 0, 20, .inl xai)), (q4, .inl (g 0, 20, .inl xfi))]) sz)) 0 0 (va_A ([(a, .inr (4, [.int (nI n), .ref q1, .ref q2, .ref q3, .ref q4])), (q1, .inl (g 0, 20, .inl xaz)), (q2, .inl (g 0, 20, .inl xal)), (q3, .inl (g 0, 20, .inl xai)), (q4, .inl (g 0, 20, .inl xfi))]) sz) := by
  refine g_met (av := [.ref a]) (QcA := fun A => va_Qi (fun (r : Int32) (_ : Unit) => r = (sumI xai n)) (fun (_ : Unit) t => Bp D g A ([(a, .inr (4, [.int (nI n), .ref q1, .ref q2, .ref q3, .ref q4])), (q1, .inl (g 0, 20, .inl xaz)), (q2, .inl (g 0, 20, .inl xal)), (q3, .inl (g 0, 20, .inl xai)), (q4, .inl (g 0, 20, .inl xfi))]) t) A) rfl (Nat.le_of_ble_eq_true rfl) ?_
  intro p e s m below meth c A Q ls E M hP hD hS hA hQ hl
  have hx := E.1.1
  have hb := E.1.2.1
  have hl : lv_has ls 3 [(0, .ref a)] := hl
  refine lv_iconst (v := 0) hx hb dX4_allAims_0 (by decide) ?_
  refine lv_istore_n (lv' := [(1, .int 0), (0, .ref a)]) hx hb dX4_allAims_1 rfl hl (by decide) rfl (fun ls hl => ?_)
  refine lv_iconst (v := 0) hx hb dX4_allAims_2 (by decide) ?_
  refine lv_istore_n (lv' := [(2, .int 0), (1, .int 0), (0, .ref a)]) hx hb dX4_allAims_3 rfl hl (by decide) rfl (fun ls hl => ?_)
  have LOOP_4 : ∀ (fu_4 : Nat) (i : Nat) (v : Int32) (hi : i ≤ n) (hv : v = sumI xai i) (hf_4 : n - i < fu_4) (H : Heap) (locs : List Loc) (ls : Array Slot), va_P D vwCl ([(a, .inr (4, [.int (nI n), .ref q1, .ref q2, .ref q3, .ref q4])), (q1, .inl (g 0, 20, .inl xaz)), (q2, .inl (g 0, 20, .inl xal)), (q3, .inl (g 0, 20, .inl xai)), (q4, .inl (g 0, 20, .inl xfi))]) H → va_D A ([(a, .inr (4, [.int (nI n), .ref q1, .ref q2, .ref q3, .ref q4])), (q1, .inl (g 0, 20, .inl xaz)), (q2, .inl (g 0, 20, .inl xal)), (q3, .inl (g 0, 20, .inl xai)), (q4, .inl (g 0, 20, .inl xfi))]) → va_S A s.heap H locs → lv_has ls 3 [(0, .ref a), (1, .int v), (2, .int (nI i))] → W p l e rm_X4_allAims s m ([.ref a] : List Value).toArray below meth c H locs 0 0 Q (F0 m 4 ls []) := by
    intro fu_4
    induction fu_4 with
    | zero => intro i v hi hv hf_4; exact absurd hf_4 (Nat.not_lt_zero _)
    | succ fu_4 ih_4 =>
      intro i v hi hv hf_4 H locs ls hP hD hS hl
      refine lv_iload_n hx hb dX4_allAims_4 rfl (lv_at hl 2 rfl) ?_
      refine lv_aload_n hx hb dX4_allAims_5 rfl (lv_at hl 0 rfl) ?_
      refine gf_X4_9 E hP 0 rfl rfl dX4_allAims_6 ?_
      refine lv_icmp_ge (tgt := 27) hx hb dX4_allAims_9 (by decide) (fun c_9 => ?_) (fun c_9 => ?_)
      · skip
        refine lv_iload_n hx hb dX4_allAims_27 rfl (lv_at hl 1 rfl) ?_
        have hL : (v : Int32) = (sumI xai n) := by rw [hv]; congr 1; have := nI_le_of c_9 (by omega) (by omega); omega
        exact g_iret hQ E M rfl hS hP hD () rfl (hL) dX4_allAims_28
      · skip
        have hlt : i < n := nI_nle_of c_9 (by omega) (by omega)
        refine lv_iload_n hx hb dX4_allAims_12 rfl (lv_at hl 1 rfl) ?_
        refine lv_aload_n hx hb dX4_allAims_13 rfl (lv_at hl 0 rfl) ?_
        refine gf_X4_22 E hP 0 rfl rfl dX4_allAims_14 ?_
        refine lv_iload_n hx hb dX4_allAims_17 rfl (lv_at hl 2 rfl) ?_
        refine g_iald E hP 3 rfl i rfl (by omega) (Nat.le_of_ble_eq_true rfl) dX4_allAims_18 ?_
        refine lv_iadd hx hb dX4_allAims_19 ?_
        refine lv_istore_n (lv' := [(1, .int (v + (xai i))), (0, .ref a), (2, .int (nI i))]) hx hb dX4_allAims_20 rfl hl (by decide) rfl (fun ls hl => ?_)
        refine lv_iinc (v := (nI (i + 1))) (lv' := [(2, .int (nI (i + 1))), (1, .int (v + (xai i))), (0, .ref a)]) hx hb dX4_allAims_21 hl (k := 2) rfl (by exact ix_add rfl rfl) (by decide) rfl (fun ls hl => ?_)
        refine lv_goto (tgt := 4) hx hb dX4_allAims_24 (by decide) ?_
        exact ih_4 (i + 1) (v + (xai i)) (by omega) (by rw [hv]; rfl) (by omega) _ _ _ hP hD hS (lv_sub hl [2, 1, 0] rfl)
  exact LOOP_4 (n - 0 + 1) 0 0 (Nat.zero_le _) rfl (Nat.lt_succ_self _) _ _ _ hP hD hS (lv_sub hl [2, 1, 0] rfl)
abbrev rm_X4_allFinds : Room := { frames := 0, cells := 0, slots := 0, locals := 0 }
set_option maxHeartbeats 600000 in
set_option maxRecDepth 100000 in
theorem CX4_allFinds (l : Launch) (D : va_G) (g : Nat → ClassId) (sz : Nat) (a q1 q2 q3 q4 : Nat) (xaz xal xai xfi : Nat → Int32) (n : Nat) (hn : n ≤ 20) : Met l yX4_allFinds (Cond.code yX4_allFinds prog_6_method_8_code 3 (some .int) :: WA) rm_X4_allFinds (va_Pc [.ref a] (Pre D g ([(a, .inr (4, [.int (nI n), .ref q1, .ref q2, .ref q3, .ref q4])), (q1, .inl (g 0, 20, .inl xaz)), (q2, .inl (g 0, 20, .inl xal)), (q3, .inl (g 0, 20, .inl xai)), (q4, .inl (g 0, 20, .inl xfi))]) sz)) (va_Qi (fun (r : Int32) (_ : Unit) => r = (sumI xfi n)) (fun (_ : Unit) t => Bp D g (va_A ([(a, .inr (4, [.int (nI n), .ref q1, .ref q2, .ref q3, .ref q4])), (q1, .inl (g 0, 20, .inl xaz)), (q2, .inl (g 0, 20, .inl xal)), (q3, .inl (g 0, 20, .inl xai)), (q4, .inl (g 0, 20, .inl xfi))]) sz) ([(a, .inr (4, [.int (nI n), .ref q1, .ref q2, .ref q3, .ref q4])), (q1, .inl (g 0, 20, .inl xaz)), (q2, .inl (g 0, 20, .inl xal)), (q3, .inl (g 0, 20, .inl xai)), (q4, .inl (g 0, 20, .inl xfi))]) t) (va_A ([(a, .inr (4, [.int (nI n), .ref q1, .ref q2, .ref q3, .ref q4])), (q1, .inl (g 0, 20, .inl xaz)), (q2, .inl (g 0, 20, .inl xal)), (q3, .inl (g 0, 20, .inl xai)), (q4, .inl (g 0, 20, .inl xfi))]) sz)) 0 0 (va_A ([(a, .inr (4, [.int (nI n), .ref q1, .ref q2, .ref q3, .ref q4])), (q1, .inl (g 0, 20, .inl xaz)), (q2, .inl (g 0, 20, .inl xal)), (q3, .inl (g 0, 20, .inl xai)), (q4, .inl (g 0, 20, .inl xfi))]) sz) := by
  refine g_met (av := [.ref a]) (QcA := fun A => va_Qi (fun (r : Int32) (_ : Unit) => r = (sumI xfi n)) (fun (_ : Unit) t => Bp D g A ([(a, .inr (4, [.int (nI n), .ref q1, .ref q2, .ref q3, .ref q4])), (q1, .inl (g 0, 20, .inl xaz)), (q2, .inl (g 0, 20, .inl xal)), (q3, .inl (g 0, 20, .inl xai)), (q4, .inl (g 0, 20, .inl xfi))]) t) A) rfl (Nat.le_of_ble_eq_true rfl) ?_
  intro p e s m below meth c A Q ls E M hP hD hS hA hQ hl
  have hx := E.1.1
  have hb := E.1.2.1
  have hl : lv_has ls 3 [(0, .ref a)] := hl
  refine lv_iconst (v := 0) hx hb dX4_allFinds_0 (by decide) ?_
  refine lv_istore_n (lv' := [(1, .int 0), (0, .ref a)]) hx hb dX4_allFinds_1 rfl hl (by decide) rfl (fun ls hl => ?_)
  refine lv_iconst (v := 0) hx hb dX4_allFinds_2 (by decide) ?_
  refine lv_istore_n (lv' := [(2, .int 0), (1, .int 0), (0, .ref a)]) hx hb dX4_allFinds_3 rfl hl (by decide) rfl (fun ls hl => ?_)
  have LOOP_4 : ∀ (fu_4 : Nat) (i : Nat) (v : Int32) (hi : i ≤ n) (hv : v = sumI xfi i) (hf_4 : n - i < fu_4) (H : Heap) (locs : List Loc) (ls : Array Slot), va_P D vwCl ([(a, .inr (4, [.int (nI n), .ref q1, .ref q2, .ref q3, .ref q4])), (q1, .inl (g 0, 20, .inl xaz)), (q2, .inl (g 0, 20, .inl xal)), (q3, .inl (g 0, 20, .inl xai)), (q4, .inl (g 0, 20, .inl xfi))]) H → va_D A ([(a, .inr (4, [.int (nI n), .ref q1, .ref q2, .ref q3, .ref q4])), (q1, .inl (g 0, 20, .inl xaz)), (q2, .inl (g 0, 20, .inl xal)), (q3, .inl (g 0, 20, .inl xai)), (q4, .inl (g 0, 20, .inl xfi))]) → va_S A s.heap H locs → lv_has ls 3 [(0, .ref a), (1, .int v), (2, .int (nI i))] → W p l e rm_X4_allFinds s m ([.ref a] : List Value).toArray below meth c H locs 0 0 Q (F0 m 4 ls []) := by
    intro fu_4
    induction fu_4 with
    | zero => intro i v hi hv hf_4; exact absurd hf_4 (Nat.not_lt_zero _)
    | succ fu_4 ih_4 =>
      intro i v hi hv hf_4 H locs ls hP hD hS hl
      refine lv_iload_n hx hb dX4_allFinds_4 rfl (lv_at hl 2 rfl) ?_
      refine lv_aload_n hx hb dX4_allFinds_5 rfl (lv_at hl 0 rfl) ?_
      refine gf_X4_9 E hP 0 rfl rfl dX4_allFinds_6 ?_
      refine lv_icmp_ge (tgt := 27) hx hb dX4_allFinds_9 (by decide) (fun c_9 => ?_) (fun c_9 => ?_)
      · skip
        refine lv_iload_n hx hb dX4_allFinds_27 rfl (lv_at hl 1 rfl) ?_
        have hL : (v : Int32) = (sumI xfi n) := by rw [hv]; congr 1; have := nI_le_of c_9 (by omega) (by omega); omega
        exact g_iret hQ E M rfl hS hP hD () rfl (hL) dX4_allFinds_28
      · skip
        have hlt : i < n := nI_nle_of c_9 (by omega) (by omega)
        refine lv_iload_n hx hb dX4_allFinds_12 rfl (lv_at hl 1 rfl) ?_
        refine lv_aload_n hx hb dX4_allFinds_13 rfl (lv_at hl 0 rfl) ?_
        refine gf_X4_25 E hP 0 rfl rfl dX4_allFinds_14 ?_
        refine lv_iload_n hx hb dX4_allFinds_17 rfl (lv_at hl 2 rfl) ?_
        refine g_iald E hP 4 rfl i rfl (by omega) (Nat.le_of_ble_eq_true rfl) dX4_allFinds_18 ?_
        refine lv_iadd hx hb dX4_allFinds_19 ?_
        refine lv_istore_n (lv' := [(1, .int (v + (xfi i))), (0, .ref a), (2, .int (nI i))]) hx hb dX4_allFinds_20 rfl hl (by decide) rfl (fun ls hl => ?_)
        refine lv_iinc (v := (nI (i + 1))) (lv' := [(2, .int (nI (i + 1))), (1, .int (v + (xfi i))), (0, .ref a)]) hx hb dX4_allFinds_21 hl (k := 2) rfl (by exact ix_add rfl rfl) (by decide) rfl (fun ls hl => ?_)
        refine lv_goto (tgt := 4) hx hb dX4_allFinds_24 (by decide) ?_
        exact ih_4 (i + 1) (v + (xfi i)) (by omega) (by rw [hv]; rfl) (by omega) _ _ _ hP hD hS (lv_sub hl [2, 1, 0] rfl)
  exact LOOP_4 (n - 0 + 1) 0 0 (Nat.zero_le _) rfl (Nat.lt_succ_self _) _ _ _ hP hD hS (lv_sub hl [2, 1, 0] rfl)
abbrev rm_X3_copyFrom : Room := { frames := 1, cells := 0, slots := 0, locals := 48 }
set_option maxHeartbeats 600000 in
set_option maxRecDepth 100000 in
theorem CX3_copyFrom (l : Launch) (D : va_G) (g : Nat → ClassId) (sz : Nat) (a q1 q2 q3 : Nat) (xle : Nat → Int32) (xca xcl : Nat → UInt64) (b o1 o2 o3 : Nat) (yle : Nat → Int32) (yca ycl : Nat → UInt64) : Met l yX3_copyFrom (Cond.code yX3_copyFrom prog_5_method_2_code 2 none :: WA) rm_X3_copyFrom (va_Pc [.ref a, .ref b] (Pre D g ([(a, .inr (3, [.ref q1, .ref q2, .ref q3])), (q1, .inl (g 0, 24, .inl xle)), (q2, .inl (g 1, 24, .inr (.inr (.inr (.inl xca))))), (q3, .inl (g 1, 24, .inr (.inr (.inr (.inl xcl))))), (b, .inr (3, [.ref o1, .ref o2, .ref o3])), (o1, .inl (g 0, 24, .inl yle)), (o2, .inl (g 1, 24, .inr (.inr (.inr (.inl yca))))), (o3, .inl (g 1, 24, .inr (.inr (.inr (.inl ycl)))))]) sz)) (va_Qv (fun (_ : Unit) => True) (fun (_ : Unit) t => Bp D g (va_A ([(a, .inr (3, [.ref q1, .ref q2, .ref q3])), (q1, .inl (g 0, 24, .inl xle)), (q2, .inl (g 1, 24, .inr (.inr (.inr (.inl xca))))), (q3, .inl (g 1, 24, .inr (.inr (.inr (.inl xcl))))), (b, .inr (3, [.ref o1, .ref o2, .ref o3])), (o1, .inl (g 0, 24, .inl yle)), (o2, .inl (g 1, 24, .inr (.inr (.inr (.inl yca))))), (o3, .inl (g 1, 24, .inr (.inr (.inr (.inl ycl)))))]) sz) ([(a, .inr (3, [.ref q1, .ref q2, .ref q3])), (q1, .inl (g 0, 24, .inl yle)), (q2, .inl (g 1, 24, .inr (.inr (.inr (.inl yca))))), (q3, .inl (g 1, 24, .inr (.inr (.inr (.inl ycl))))), (b, .inr (3, [.ref o1, .ref o2, .ref o3])), (o1, .inl (g 0, 24, .inl yle)), (o2, .inl (g 1, 24, .inr (.inr (.inr (.inl yca))))), (o3, .inl (g 1, 24, .inr (.inr (.inr (.inl ycl)))))]) t) (va_A ([(a, .inr (3, [.ref q1, .ref q2, .ref q3])), (q1, .inl (g 0, 24, .inl xle)), (q2, .inl (g 1, 24, .inr (.inr (.inr (.inl xca))))), (q3, .inl (g 1, 24, .inr (.inr (.inr (.inl xcl))))), (b, .inr (3, [.ref o1, .ref o2, .ref o3])), (o1, .inl (g 0, 24, .inl yle)), (o2, .inl (g 1, 24, .inr (.inr (.inr (.inl yca))))), (o3, .inl (g 1, 24, .inr (.inr (.inr (.inl ycl)))))]) sz)) 0 0 (va_A ([(a, .inr (3, [.ref q1, .ref q2, .ref q3])), (q1, .inl (g 0, 24, .inl xle)), (q2, .inl (g 1, 24, .inr (.inr (.inr (.inl xca))))), (q3, .inl (g 1, 24, .inr (.inr (.inr (.inl xcl))))), (b, .inr (3, [.ref o1, .ref o2, .ref o3])), (o1, .inl (g 0, 24, .inl yle)), (o2, .inl (g 1, 24, .inr (.inr (.inr (.inl yca))))), (o3, .inl (g 1, 24, .inr (.inr (.inr (.inl ycl)))))]) sz) := by
  refine g_met (av := [.ref a, .ref b]) (QcA := fun A => va_Qv (fun (_ : Unit) => True) (fun (_ : Unit) t => Bp D g A ([(a, .inr (3, [.ref q1, .ref q2, .ref q3])), (q1, .inl (g 0, 24, .inl yle)), (q2, .inl (g 1, 24, .inr (.inr (.inr (.inl yca))))), (q3, .inl (g 1, 24, .inr (.inr (.inr (.inl ycl))))), (b, .inr (3, [.ref o1, .ref o2, .ref o3])), (o1, .inl (g 0, 24, .inl yle)), (o2, .inl (g 1, 24, .inr (.inr (.inr (.inl yca))))), (o3, .inl (g 1, 24, .inr (.inr (.inr (.inl ycl)))))]) t) A) rfl (Nat.le_of_ble_eq_true rfl) ?_
  intro p e s m below meth c A Q ls E M hP hD hS hA hQ hl
  have hx := E.1.1
  have hb := E.1.2.1
  have hl : lv_has ls 2 [(0, .ref a), (1, .ref b)] := hl
  refine lv_aload_n hx hb dX3_copyFrom_0 rfl (lv_at hl 1 rfl) ?_
  refine gf_X3_9 E hP 4 rfl rfl dX3_copyFrom_1 ?_
  refine lv_iconst (v := 0) hx hb dX3_copyFrom_4 (by decide) ?_
  refine lv_aload_n hx hb dX3_copyFrom_5 rfl (lv_at hl 0 rfl) ?_
  refine gf_X3_9 E hP 0 rfl rfl dX3_copyFrom_6 ?_
  refine lv_iconst (v := 0) hx hb dX3_copyFrom_9 (by decide) ?_
  refine lv_bipush (v := 24) hx hb dX3_copyFrom_10 (by decide) ?_
  refine gci_X3_22 (n := 24) (n0 := 24) (n1 := 24) E hl.1.symm hP hD hS 5 1 rfl rfl rfl (Nat.le_of_ble_eq_true rfl) (Nat.le_refl _) (Nat.le_refl _) (Nat.le_of_ble_eq_true rfl) (Nat.le_of_ble_eq_true rfl) dX3_copyFrom_12 (fun H locs hP hD hS => ?_)
  have hP : va_P D vwCl ([(a, .inr (3, [.ref q1, .ref q2, .ref q3])), (q1, .inl (g 0, 24, .inl (va_cpy yle xle 0 0 24))), (q2, .inl (g 1, 24, .inr (.inr (.inr (.inl xca))))), (q3, .inl (g 1, 24, .inr (.inr (.inr (.inl xcl))))), (b, .inr (3, [.ref o1, .ref o2, .ref o3])), (o1, .inl (g 0, 24, .inl yle)), (o2, .inl (g 1, 24, .inr (.inr (.inr (.inl yca))))), (o3, .inl (g 1, 24, .inr (.inr (.inr (.inl ycl)))))]) H := hP
  have hD : va_D A ([(a, .inr (3, [.ref q1, .ref q2, .ref q3])), (q1, .inl (g 0, 24, .inl (va_cpy yle xle 0 0 24))), (q2, .inl (g 1, 24, .inr (.inr (.inr (.inl xca))))), (q3, .inl (g 1, 24, .inr (.inr (.inr (.inl xcl))))), (b, .inr (3, [.ref o1, .ref o2, .ref o3])), (o1, .inl (g 0, 24, .inl yle)), (o2, .inl (g 1, 24, .inr (.inr (.inr (.inl yca))))), (o3, .inl (g 1, 24, .inr (.inr (.inr (.inl ycl)))))]) := hD
  obtain ⟨hP, hD⟩ := g_contI yle (q0 := 1) hP hD rfl cpy_in
  have hP : va_P D vwCl ([(a, .inr (3, [.ref q1, .ref q2, .ref q3])), (q1, .inl (g 0, 24, .inl yle)), (q2, .inl (g 1, 24, .inr (.inr (.inr (.inl xca))))), (q3, .inl (g 1, 24, .inr (.inr (.inr (.inl xcl))))), (b, .inr (3, [.ref o1, .ref o2, .ref o3])), (o1, .inl (g 0, 24, .inl yle)), (o2, .inl (g 1, 24, .inr (.inr (.inr (.inl yca))))), (o3, .inl (g 1, 24, .inr (.inr (.inr (.inl ycl)))))]) H := hP
  have hD : va_D A ([(a, .inr (3, [.ref q1, .ref q2, .ref q3])), (q1, .inl (g 0, 24, .inl yle)), (q2, .inl (g 1, 24, .inr (.inr (.inr (.inl xca))))), (q3, .inl (g 1, 24, .inr (.inr (.inr (.inl xcl))))), (b, .inr (3, [.ref o1, .ref o2, .ref o3])), (o1, .inl (g 0, 24, .inl yle)), (o2, .inl (g 1, 24, .inr (.inr (.inr (.inl yca))))), (o3, .inl (g 1, 24, .inr (.inr (.inr (.inl ycl)))))]) := hD
  refine lv_aload_n hx hb dX3_copyFrom_15 rfl (lv_at hl 1 rfl) ?_
  refine gf_X3_15 E hP 4 rfl rfl dX3_copyFrom_16 ?_
  refine lv_iconst (v := 0) hx hb dX3_copyFrom_19 (by decide) ?_
  refine lv_aload_n hx hb dX3_copyFrom_20 rfl (lv_at hl 0 rfl) ?_
  refine gf_X3_15 E hP 0 rfl rfl dX3_copyFrom_21 ?_
  refine lv_iconst (v := 0) hx hb dX3_copyFrom_24 (by decide) ?_
  refine lv_bipush (v := 24) hx hb dX3_copyFrom_25 (by decide) ?_
  refine gcd_X3_22 (n := 24) (n0 := 24) (n1 := 24) E hl.1.symm hP hD hS 6 2 rfl rfl rfl (Nat.le_of_ble_eq_true rfl) (Nat.le_refl _) (Nat.le_refl _) (Nat.le_of_ble_eq_true rfl) (Nat.le_of_ble_eq_true rfl) dX3_copyFrom_27 (fun H locs hP hD hS => ?_)
  have hP : va_P D vwCl ([(a, .inr (3, [.ref q1, .ref q2, .ref q3])), (q1, .inl (g 0, 24, .inl yle)), (q2, .inl (g 1, 24, .inr (.inr (.inr (.inl (va_cpy yca xca 0 0 24)))))), (q3, .inl (g 1, 24, .inr (.inr (.inr (.inl xcl))))), (b, .inr (3, [.ref o1, .ref o2, .ref o3])), (o1, .inl (g 0, 24, .inl yle)), (o2, .inl (g 1, 24, .inr (.inr (.inr (.inl yca))))), (o3, .inl (g 1, 24, .inr (.inr (.inr (.inl ycl)))))]) H := hP
  have hD : va_D A ([(a, .inr (3, [.ref q1, .ref q2, .ref q3])), (q1, .inl (g 0, 24, .inl yle)), (q2, .inl (g 1, 24, .inr (.inr (.inr (.inl (va_cpy yca xca 0 0 24)))))), (q3, .inl (g 1, 24, .inr (.inr (.inr (.inl xcl))))), (b, .inr (3, [.ref o1, .ref o2, .ref o3])), (o1, .inl (g 0, 24, .inl yle)), (o2, .inl (g 1, 24, .inr (.inr (.inr (.inl yca))))), (o3, .inl (g 1, 24, .inr (.inr (.inr (.inl ycl)))))]) := hD
  obtain ⟨hP, hD⟩ := g_contD yca (q0 := 2) hP hD rfl cpy_in
  have hP : va_P D vwCl ([(a, .inr (3, [.ref q1, .ref q2, .ref q3])), (q1, .inl (g 0, 24, .inl yle)), (q2, .inl (g 1, 24, .inr (.inr (.inr (.inl yca))))), (q3, .inl (g 1, 24, .inr (.inr (.inr (.inl xcl))))), (b, .inr (3, [.ref o1, .ref o2, .ref o3])), (o1, .inl (g 0, 24, .inl yle)), (o2, .inl (g 1, 24, .inr (.inr (.inr (.inl yca))))), (o3, .inl (g 1, 24, .inr (.inr (.inr (.inl ycl)))))]) H := hP
  have hD : va_D A ([(a, .inr (3, [.ref q1, .ref q2, .ref q3])), (q1, .inl (g 0, 24, .inl yle)), (q2, .inl (g 1, 24, .inr (.inr (.inr (.inl yca))))), (q3, .inl (g 1, 24, .inr (.inr (.inr (.inl xcl))))), (b, .inr (3, [.ref o1, .ref o2, .ref o3])), (o1, .inl (g 0, 24, .inl yle)), (o2, .inl (g 1, 24, .inr (.inr (.inr (.inl yca))))), (o3, .inl (g 1, 24, .inr (.inr (.inr (.inl ycl)))))]) := hD
  refine lv_aload_n hx hb dX3_copyFrom_30 rfl (lv_at hl 1 rfl) ?_
  refine gf_X3_19 E hP 4 rfl rfl dX3_copyFrom_31 ?_
  refine lv_iconst (v := 0) hx hb dX3_copyFrom_34 (by decide) ?_
  refine lv_aload_n hx hb dX3_copyFrom_35 rfl (lv_at hl 0 rfl) ?_
  refine gf_X3_19 E hP 0 rfl rfl dX3_copyFrom_36 ?_
  refine lv_iconst (v := 0) hx hb dX3_copyFrom_39 (by decide) ?_
  refine lv_bipush (v := 24) hx hb dX3_copyFrom_40 (by decide) ?_
  refine gcd_X3_22 (n := 24) (n0 := 24) (n1 := 24) E hl.1.symm hP hD hS 7 3 rfl rfl rfl (Nat.le_of_ble_eq_true rfl) (Nat.le_refl _) (Nat.le_refl _) (Nat.le_of_ble_eq_true rfl) (Nat.le_of_ble_eq_true rfl) dX3_copyFrom_42 (fun H locs hP hD hS => ?_)
  have hP : va_P D vwCl ([(a, .inr (3, [.ref q1, .ref q2, .ref q3])), (q1, .inl (g 0, 24, .inl yle)), (q2, .inl (g 1, 24, .inr (.inr (.inr (.inl yca))))), (q3, .inl (g 1, 24, .inr (.inr (.inr (.inl (va_cpy ycl xcl 0 0 24)))))), (b, .inr (3, [.ref o1, .ref o2, .ref o3])), (o1, .inl (g 0, 24, .inl yle)), (o2, .inl (g 1, 24, .inr (.inr (.inr (.inl yca))))), (o3, .inl (g 1, 24, .inr (.inr (.inr (.inl ycl)))))]) H := hP
  have hD : va_D A ([(a, .inr (3, [.ref q1, .ref q2, .ref q3])), (q1, .inl (g 0, 24, .inl yle)), (q2, .inl (g 1, 24, .inr (.inr (.inr (.inl yca))))), (q3, .inl (g 1, 24, .inr (.inr (.inr (.inl (va_cpy ycl xcl 0 0 24)))))), (b, .inr (3, [.ref o1, .ref o2, .ref o3])), (o1, .inl (g 0, 24, .inl yle)), (o2, .inl (g 1, 24, .inr (.inr (.inr (.inl yca))))), (o3, .inl (g 1, 24, .inr (.inr (.inr (.inl ycl)))))]) := hD
  obtain ⟨hP, hD⟩ := g_contD ycl (q0 := 3) hP hD rfl cpy_in
  have hP : va_P D vwCl ([(a, .inr (3, [.ref q1, .ref q2, .ref q3])), (q1, .inl (g 0, 24, .inl yle)), (q2, .inl (g 1, 24, .inr (.inr (.inr (.inl yca))))), (q3, .inl (g 1, 24, .inr (.inr (.inr (.inl ycl))))), (b, .inr (3, [.ref o1, .ref o2, .ref o3])), (o1, .inl (g 0, 24, .inl yle)), (o2, .inl (g 1, 24, .inr (.inr (.inr (.inl yca))))), (o3, .inl (g 1, 24, .inr (.inr (.inr (.inl ycl)))))]) H := hP
  have hD : va_D A ([(a, .inr (3, [.ref q1, .ref q2, .ref q3])), (q1, .inl (g 0, 24, .inl yle)), (q2, .inl (g 1, 24, .inr (.inr (.inr (.inl yca))))), (q3, .inl (g 1, 24, .inr (.inr (.inr (.inl ycl))))), (b, .inr (3, [.ref o1, .ref o2, .ref o3])), (o1, .inl (g 0, 24, .inl yle)), (o2, .inl (g 1, 24, .inr (.inr (.inr (.inl yca))))), (o3, .inl (g 1, 24, .inr (.inr (.inr (.inl ycl)))))]) := hD
  exact g_vret hQ E M rfl hS hP hD () rfl (trivial) dX3_copyFrom_45
abbrev rm_X3_clear : Room := { frames := 0, cells := 0, slots := 0, locals := 0 }
set_option maxHeartbeats 600000 in
set_option maxRecDepth 100000 in
theorem CX3_clear (l : Launch) (D : va_G) (g : Nat → ClassId) (sz : Nat) (a q1 q2 q3 : Nat) (xle : Nat → Int32) (xca xcl : Nat → UInt64) (k : Nat) (hk : k < 24) : Met l yX3_clear (Cond.code yX3_clear prog_5_method_3_code 3 (some .int) :: WA) rm_X3_clear (va_Pc [.ref a, .int (nI k)] (Pre D g ([(a, .inr (3, [.ref q1, .ref q2, .ref q3])), (q1, .inl (g 0, 24, .inl xle)), (q2, .inl (g 1, 24, .inr (.inr (.inr (.inl xca))))), (q3, .inl (g 1, 24, .inr (.inr (.inr (.inl xcl)))))]) sz)) (va_Qi (fun (r : Int32) (_ : Unit) => r = (xle k)) (fun (_ : Unit) t => Bp D g (va_A ([(a, .inr (3, [.ref q1, .ref q2, .ref q3])), (q1, .inl (g 0, 24, .inl xle)), (q2, .inl (g 1, 24, .inr (.inr (.inr (.inl xca))))), (q3, .inl (g 1, 24, .inr (.inr (.inr (.inl xcl)))))]) sz) ([(a, .inr (3, [.ref q1, .ref q2, .ref q3])), (q1, .inl (g 0, 24, .inl (upd xle k 0))), (q2, .inl (g 1, 24, .inr (.inr (.inr (.inl (vf_upd xca k FP.dconst0)))))), (q3, .inl (g 1, 24, .inr (.inr (.inr (.inl (vf_upd xcl k FP.dconst0))))))]) t) (va_A ([(a, .inr (3, [.ref q1, .ref q2, .ref q3])), (q1, .inl (g 0, 24, .inl xle)), (q2, .inl (g 1, 24, .inr (.inr (.inr (.inl xca))))), (q3, .inl (g 1, 24, .inr (.inr (.inr (.inl xcl)))))]) sz)) 0 0 (va_A ([(a, .inr (3, [.ref q1, .ref q2, .ref q3])), (q1, .inl (g 0, 24, .inl xle)), (q2, .inl (g 1, 24, .inr (.inr (.inr (.inl xca))))), (q3, .inl (g 1, 24, .inr (.inr (.inr (.inl xcl)))))]) sz) := by
  refine g_met (av := [.ref a, .int (nI k)]) (QcA := fun A => va_Qi (fun (r : Int32) (_ : Unit) => r = (xle k)) (fun (_ : Unit) t => Bp D g A ([(a, .inr (3, [.ref q1, .ref q2, .ref q3])), (q1, .inl (g 0, 24, .inl (upd xle k 0))), (q2, .inl (g 1, 24, .inr (.inr (.inr (.inl (vf_upd xca k FP.dconst0)))))), (q3, .inl (g 1, 24, .inr (.inr (.inr (.inl (vf_upd xcl k FP.dconst0))))))]) t) A) rfl (Nat.le_of_ble_eq_true rfl) ?_
  intro p e s m below meth c A Q ls E M hP hD hS hA hQ hl
  have hx := E.1.1
  have hb := E.1.2.1
  have hl : lv_has ls 3 [(0, .ref a), (1, .int (nI k))] := hl
  refine lv_aload_n hx hb dX3_clear_0 rfl (lv_at hl 0 rfl) ?_
  refine gf_X3_9 E hP 0 rfl rfl dX3_clear_1 ?_
  refine lv_iload_n hx hb dX3_clear_4 rfl (lv_at hl 1 rfl) ?_
  refine g_iald E hP 1 rfl k rfl (by omega) (Nat.le_of_ble_eq_true rfl) dX3_clear_5 ?_
  refine lv_istore_n (lv' := [(2, .int (xle k)), (0, .ref a), (1, .int (nI k))]) hx hb dX3_clear_6 rfl hl (by decide) rfl (fun ls hl => ?_)
  refine lv_aload_n hx hb dX3_clear_7 rfl (lv_at hl 1 rfl) ?_
  refine gf_X3_9 E hP 0 rfl rfl dX3_clear_8 ?_
  refine lv_iload_n hx hb dX3_clear_11 rfl (lv_at hl 2 rfl) ?_
  refine lv_iconst (v := 0) hx hb dX3_clear_12 (by decide) ?_
  refine g_iast E hP hD hS 1 rfl k rfl (by omega) (Nat.le_of_ble_eq_true rfl) dX3_clear_13 (fun H locs hP hD hS => ?_)
  have hP : va_P D vwCl ([(a, .inr (3, [.ref q1, .ref q2, .ref q3])), (q1, .inl (g 0, 24, .inl (upd xle k 0))), (q2, .inl (g 1, 24, .inr (.inr (.inr (.inl xca))))), (q3, .inl (g 1, 24, .inr (.inr (.inr (.inl xcl)))))]) H := hP
  have hD : va_D A ([(a, .inr (3, [.ref q1, .ref q2, .ref q3])), (q1, .inl (g 0, 24, .inl (upd xle k 0))), (q2, .inl (g 1, 24, .inr (.inr (.inr (.inl xca))))), (q3, .inl (g 1, 24, .inr (.inr (.inr (.inl xcl)))))]) := hD
  refine lv_aload_n hx hb dX3_clear_14 rfl (lv_at hl 1 rfl) ?_
  refine gf_X3_15 E hP 0 rfl rfl dX3_clear_15 ?_
  refine lv_iload_n hx hb dX3_clear_18 rfl (lv_at hl 2 rfl) ?_
  refine lv_dconst0 hx hb dX3_clear_19 ?_
  refine g_dast E hP hD hS 2 rfl k rfl (by omega) (Nat.le_of_ble_eq_true rfl) dX3_clear_20 (fun H locs hP hD hS => ?_)
  have hP : va_P D vwCl ([(a, .inr (3, [.ref q1, .ref q2, .ref q3])), (q1, .inl (g 0, 24, .inl (upd xle k 0))), (q2, .inl (g 1, 24, .inr (.inr (.inr (.inl (vf_upd xca k FP.dconst0)))))), (q3, .inl (g 1, 24, .inr (.inr (.inr (.inl xcl)))))]) H := hP
  have hD : va_D A ([(a, .inr (3, [.ref q1, .ref q2, .ref q3])), (q1, .inl (g 0, 24, .inl (upd xle k 0))), (q2, .inl (g 1, 24, .inr (.inr (.inr (.inl (vf_upd xca k FP.dconst0)))))), (q3, .inl (g 1, 24, .inr (.inr (.inr (.inl xcl)))))]) := hD
  refine lv_aload_n hx hb dX3_clear_21 rfl (lv_at hl 1 rfl) ?_
  refine gf_X3_19 E hP 0 rfl rfl dX3_clear_22 ?_
  refine lv_iload_n hx hb dX3_clear_25 rfl (lv_at hl 2 rfl) ?_
  refine lv_dconst0 hx hb dX3_clear_26 ?_
  refine g_dast E hP hD hS 3 rfl k rfl (by omega) (Nat.le_of_ble_eq_true rfl) dX3_clear_27 (fun H locs hP hD hS => ?_)
  have hP : va_P D vwCl ([(a, .inr (3, [.ref q1, .ref q2, .ref q3])), (q1, .inl (g 0, 24, .inl (upd xle k 0))), (q2, .inl (g 1, 24, .inr (.inr (.inr (.inl (vf_upd xca k FP.dconst0)))))), (q3, .inl (g 1, 24, .inr (.inr (.inr (.inl (vf_upd xcl k FP.dconst0))))))]) H := hP
  have hD : va_D A ([(a, .inr (3, [.ref q1, .ref q2, .ref q3])), (q1, .inl (g 0, 24, .inl (upd xle k 0))), (q2, .inl (g 1, 24, .inr (.inr (.inr (.inl (vf_upd xca k FP.dconst0)))))), (q3, .inl (g 1, 24, .inr (.inr (.inr (.inl (vf_upd xcl k FP.dconst0))))))]) := hD
  refine lv_iload_n hx hb dX3_clear_28 rfl (lv_at hl 0 rfl) ?_
  exact g_iret hQ E M rfl hS hP hD () rfl (rfl) dX3_clear_29
abbrev rm_X3_distance : Room := { frames := 1, cells := 0, slots := 0, locals := 21 }
set_option maxHeartbeats 600000 in
set_option maxRecDepth 100000 in
theorem CX3_distance (l : Launch) (D : va_G) (g : Nat → ClassId) (sz : Nat) (i k : Nat) (hi : i < 24) (hk : k < 24) : Met l yX3_distance (Cond.code yX3_distance prog_5_method_5_code 3 (some .int) :: WA) rm_X3_distance (va_Pc [.int (nI i), .int (nI k)] (Pre D g ([]) sz)) (va_Qi (fun (r : Int32) (_ : Unit) => r = (nI (dsN i k))) (fun (_ : Unit) t => Bp D g (va_A ([]) sz) ([]) t) (va_A ([]) sz)) 0 0 (va_A ([]) sz) := by
  refine g_met (av := [.int (nI i), .int (nI k)]) (QcA := fun A => va_Qi (fun (r : Int32) (_ : Unit) => r = (nI (dsN i k))) (fun (_ : Unit) t => Bp D g A ([]) t) A) rfl (Nat.le_of_ble_eq_true rfl) ?_
  intro p e s m below meth c A Q ls E M hP hD hS hA hQ hl
  have hx := E.1.1
  have hb := E.1.2.1
  have hl : lv_has ls 3 [(0, .int (nI i)), (1, .int (nI k))] := hl
  refine lv_iload_n hx hb dX3_distance_0 rfl (lv_at hl 0 rfl) ?_
  refine lv_iconst (v := 3) hx hb dX3_distance_1 (by decide) ?_
  refine lv_idiv hx hb dX3_distance_2 (by decide) ?_
  refine lv_iload_n hx hb dX3_distance_3 rfl (lv_at hl 1 rfl) ?_
  refine lv_iconst (v := 3) hx hb dX3_distance_4 (by decide) ?_
  refine lv_idiv hx hb dX3_distance_5 (by decide) ?_
  refine lv_isub hx hb dX3_distance_6 ?_
  refine gm_X3_32 E hl.1.symm (Nat.le_of_ble_eq_true rfl) (Nat.le_of_ble_eq_true rfl) (Nat.zero_le _) (Nat.zero_le _) dX3_distance_7 ?_
  refine g_top (w := .int (absI (((nI i) / 3) - ((nI k) / 3)))) rfl ?_
  refine lv_istore_n (lv' := [(2, .int (absI (((nI i) / 3) - ((nI k) / 3)))), (0, .int (nI i)), (1, .int (nI k))]) hx hb dX3_distance_10 rfl hl (by decide) rfl (fun ls hl => ?_)
  refine lv_iload_n hx hb dX3_distance_11 rfl (lv_at hl 0 rfl) ?_
  refine lv_bipush (v := 8) hx hb dX3_distance_12 (by decide) ?_
  refine lv_iload_n hx hb dX3_distance_14 rfl (lv_at hl 0 rfl) ?_
  refine lv_isub hx hb dX3_distance_15 ?_
  refine gm_X3_38 E hl.1.symm (Nat.le_of_ble_eq_true rfl) (Nat.le_of_ble_eq_true rfl) (Nat.zero_le _) (Nat.zero_le _) dX3_distance_16 ?_
  refine g_top (w := .int (mnI (absI (((nI i) / 3) - ((nI k) / 3))) (8 - (absI (((nI i) / 3) - ((nI k) / 3)))))) rfl ?_
  refine lv_iload_n hx hb dX3_distance_19 rfl (lv_at hl 1 rfl) ?_
  refine lv_iconst (v := 3) hx hb dX3_distance_20 (by decide) ?_
  refine lv_irem hx hb dX3_distance_21 (by decide) ?_
  refine lv_iload_n hx hb dX3_distance_22 rfl (lv_at hl 2 rfl) ?_
  refine lv_iconst (v := 3) hx hb dX3_distance_23 (by decide) ?_
  refine lv_irem hx hb dX3_distance_24 (by decide) ?_
  refine lv_isub hx hb dX3_distance_25 ?_
  refine gm_X3_32 E hl.1.symm (Nat.le_of_ble_eq_true rfl) (Nat.le_of_ble_eq_true rfl) (Nat.zero_le _) (Nat.zero_le _) dX3_distance_26 ?_
  refine g_top (w := .int (absI (((nI i) - (nI i) / 3 * 3) - ((nI k) - (nI k) / 3 * 3)))) rfl ?_
  refine lv_iadd hx hb dX3_distance_29 ?_
  have hL : (((mnI (absI (((nI i) / 3) - ((nI k) / 3))) (8 - (absI (((nI i) / 3) - ((nI k) / 3))))) + (absI (((nI i) - (nI i) / 3 * 3) - ((nI k) - (nI k) / 3 * 3)))) : Int32) = (nI (dsN i k)) := dist_ok i hi k hk
  exact g_iret hQ E M rfl hS hP hD () rfl (hL) dX3_distance_30
abbrev rm_X3_sourceOf : Room := { frames := 2, cells := 0, slots := 0, locals := 43 }
set_option maxHeartbeats 600000 in
set_option maxRecDepth 100000 in
theorem CX3_sourceOf (l : Launch) (D : va_G) (g : Nat → ClassId) (sz : Nat) (a q1 q2 q3 : Nat) (xle : Nat → Int32) (xca xcl : Nat → UInt64) (k : Nat) (hk : k < 24) : Met l yX3_sourceOf (Cond.code yX3_sourceOf prog_5_method_4_code 6 (some .int) :: WA) rm_X3_sourceOf (va_Pc [.ref a, .int (nI k)] (Pre D g ([(a, .inr (3, [.ref q1, .ref q2, .ref q3])), (q1, .inl (g 0, 24, .inl xle)), (q2, .inl (g 1, 24, .inr (.inr (.inr (.inl xca))))), (q3, .inl (g 1, 24, .inr (.inr (.inr (.inl xcl)))))]) sz)) (va_Qi (fun (r : Int32) (_ : Unit) => r = (optI (srcN xle k 24))) (fun (_ : Unit) t => Bp D g (va_A ([(a, .inr (3, [.ref q1, .ref q2, .ref q3])), (q1, .inl (g 0, 24, .inl xle)), (q2, .inl (g 1, 24, .inr (.inr (.inr (.inl xca))))), (q3, .inl (g 1, 24, .inr (.inr (.inr (.inl xcl)))))]) sz) ([(a, .inr (3, [.ref q1, .ref q2, .ref q3])), (q1, .inl (g 0, 24, .inl xle)), (q2, .inl (g 1, 24, .inr (.inr (.inr (.inl xca))))), (q3, .inl (g 1, 24, .inr (.inr (.inr (.inl xcl)))))]) t) (va_A ([(a, .inr (3, [.ref q1, .ref q2, .ref q3])), (q1, .inl (g 0, 24, .inl xle)), (q2, .inl (g 1, 24, .inr (.inr (.inr (.inl xca))))), (q3, .inl (g 1, 24, .inr (.inr (.inr (.inl xcl)))))]) sz)) 0 0 (va_A ([(a, .inr (3, [.ref q1, .ref q2, .ref q3])), (q1, .inl (g 0, 24, .inl xle)), (q2, .inl (g 1, 24, .inr (.inr (.inr (.inl xca))))), (q3, .inl (g 1, 24, .inr (.inr (.inr (.inl xcl)))))]) sz) := by
  refine g_met (av := [.ref a, .int (nI k)]) (QcA := fun A => va_Qi (fun (r : Int32) (_ : Unit) => r = (optI (srcN xle k 24))) (fun (_ : Unit) t => Bp D g A ([(a, .inr (3, [.ref q1, .ref q2, .ref q3])), (q1, .inl (g 0, 24, .inl xle)), (q2, .inl (g 1, 24, .inr (.inr (.inr (.inl xca))))), (q3, .inl (g 1, 24, .inr (.inr (.inr (.inl xcl)))))]) t) A) rfl (Nat.le_of_ble_eq_true rfl) ?_
  intro p e s m below meth c A Q ls E M hP hD hS hA hQ hl
  have hx := E.1.1
  have hb := E.1.2.1
  have hl : lv_has ls 6 [(0, .ref a), (1, .int (nI k))] := hl
  refine lv_iconst (v := (-1)) hx hb dX3_sourceOf_0 (by decide) ?_
  refine lv_istore_n (lv' := [(2, .int (-1)), (0, .ref a), (1, .int (nI k))]) hx hb dX3_sourceOf_1 rfl hl (by decide) rfl (fun ls hl => ?_)
  refine lv_iconst (v := 0) hx hb dX3_sourceOf_2 (by decide) ?_
  refine lv_istore_n (lv' := [(3, .int 0), (2, .int (-1)), (0, .ref a), (1, .int (nI k))]) hx hb dX3_sourceOf_3 rfl hl (by decide) rfl (fun ls hl => ?_)
  refine lv_iconst (v := 0) hx hb dX3_sourceOf_4 (by decide) ?_
  refine lv_istore (lv' := [(4, .int 0), (3, .int 0), (2, .int (-1)), (0, .ref a), (1, .int (nI k))]) hx hb dX3_sourceOf_5 hl (by decide) rfl (fun ls hl => ?_)
  have LOOP_7 : ∀ (fu_7 : Nat) (i : Nat) (o : Option Nat) (v : Int32) (hi : i ≤ 24) (ho : o = srcN xle k i) (hv : ∀ q, o = some q → v = nI (dsN k q) ∧ q < 24) (hf_7 : 24 - i < fu_7) (H : Heap) (locs : List Loc) (ls : Array Slot), va_P D vwCl ([(a, .inr (3, [.ref q1, .ref q2, .ref q3])), (q1, .inl (g 0, 24, .inl xle)), (q2, .inl (g 1, 24, .inr (.inr (.inr (.inl xca))))), (q3, .inl (g 1, 24, .inr (.inr (.inr (.inl xcl)))))]) H → va_D A ([(a, .inr (3, [.ref q1, .ref q2, .ref q3])), (q1, .inl (g 0, 24, .inl xle)), (q2, .inl (g 1, 24, .inr (.inr (.inr (.inl xca))))), (q3, .inl (g 1, 24, .inr (.inr (.inr (.inl xcl)))))]) → va_S A s.heap H locs → lv_has ls 6 [(0, .ref a), (1, .int (nI k)), (2, .int (optI o)), (3, .int v), (4, .int (nI i))] → W p l e rm_X3_sourceOf s m ([.ref a, .int (nI k)] : List Value).toArray below meth c H locs 0 0 Q (F0 m 7 ls []) := by
    intro fu_7
    induction fu_7 with
    | zero => intro i o v hi ho hv hf_7; exact absurd hf_7 (Nat.not_lt_zero _)
    | succ fu_7 ih_7 =>
      intro i o v hi ho hv hf_7 H locs ls hP hD hS hl
      refine lv_iload hx hb dX3_sourceOf_7 (lv_at hl 4 rfl) ?_
      refine lv_bipush (v := 24) hx hb dX3_sourceOf_9 (by decide) ?_
      refine lv_icmp_ge (tgt := 55) hx hb dX3_sourceOf_11 (by decide) (fun c_11 => ?_) (fun c_11 => ?_)
      · skip
        refine lv_iload_n hx hb dX3_sourceOf_55 rfl (lv_at hl 2 rfl) ?_
        have hL : ((optI o) : Int32) = (optI (srcN xle k 24)) := by rw [ho]; congr 2; have : 24 ≤ i := nI_le_of c_11 (by decide) (by omega); omega
        exact g_iret hQ E M rfl hS hP hD () rfl (hL) dX3_sourceOf_56
      · skip
        have hlt : i < 24 := nI_nle_of c_11 (by decide) (by omega)
        refine lv_aload_n hx hb dX3_sourceOf_14 rfl (lv_at hl 0 rfl) ?_
        refine gf_X3_9 E hP 0 rfl rfl dX3_sourceOf_15 ?_
        refine lv_iload hx hb dX3_sourceOf_18 (lv_at hl 4 rfl) ?_
        refine g_iald E hP 1 rfl i rfl (by omega) (Nat.le_of_ble_eq_true rfl) dX3_sourceOf_20 ?_
        refine lv_if_le (tgt := 49) hx hb dX3_sourceOf_21 (by decide) (fun c_21 => ?_) (fun c_21 => ?_)
        · skip
          refine lv_iinc (v := (nI (i + 1))) (lv' := [(4, .int (nI (i + 1))), (0, .ref a), (1, .int (nI k)), (2, .int (optI o)), (3, .int v)]) hx hb dX3_sourceOf_49 hl (k := 4) rfl (by exact ix_add rfl rfl) (by decide) rfl (fun ls hl => ?_)
          refine lv_goto (tgt := 7) hx hb dX3_sourceOf_52 (by decide) ?_
          -- region o
          exact ih_7 (i + 1) o v (by omega) (srcN_skip ho c_21) hv (by omega) _ _ _ hP hD hS (lv_sub hl [1, 2, 3, 4, 0] rfl)
        · skip
          refine lv_iload_n hx hb dX3_sourceOf_24 rfl (lv_at hl 1 rfl) ?_
          refine lv_iload hx hb dX3_sourceOf_25 (lv_at hl 4 rfl) ?_
          refine cl_X3_28 (As := [.int (nI k), .int (nI i)]) (rest := []) (wc := []) (wr := [(a, .inr (3, [.ref q1, .ref q2, .ref q3])), (q1, .inl (g 0, 24, .inl xle)), (q2, .inl (g 1, 24, .inr (.inr (.inr (.inl xca))))), (q3, .inl (g 1, 24, .inr (.inr (.inr (.inl xcl)))))]) (wn := (fun _ => [(a, .inr (3, [.ref q1, .ref q2, .ref q3])), (q1, .inl (g 0, 24, .inl xle)), (q2, .inl (g 1, 24, .inr (.inr (.inr (.inl xca))))), (q3, .inl (g 1, 24, .inr (.inr (.inr (.inl xcl)))))])) (isC := []) (isR := [0, 1, 2, 3]) (isP := [0, 1, 2, 3]) E hS hA hP hD ⟨rfl, rfl, rfl, rfl, by decide, fun _ => rfl, rfl⟩ (CX3_distance l D g _ k i hk (nI_nle_of c_11 (by decide) (by omega))) ⟨Nat.le_of_ble_eq_true rfl, Nat.le_of_ble_eq_true rfl⟩ rfl rfl rfl hl.1 rfl (Nat.le_of_ble_eq_true rfl) ⟨Nat.le_of_ble_eq_true rfl, Nat.le_of_ble_eq_true rfl⟩ dX3_sourceOf_27 (fun r u H locs hw hP hD hS => ?_)
          have hP : va_P D vwCl ([(a, .inr (3, [.ref q1, .ref q2, .ref q3])), (q1, .inl (g 0, 24, .inl xle)), (q2, .inl (g 1, 24, .inr (.inr (.inr (.inl xca))))), (q3, .inl (g 1, 24, .inr (.inr (.inr (.inl xcl)))))]) H := hP
          have hD : va_D A ([(a, .inr (3, [.ref q1, .ref q2, .ref q3])), (q1, .inl (g 0, 24, .inl xle)), (q2, .inl (g 1, 24, .inr (.inr (.inr (.inl xca))))), (q3, .inl (g 1, 24, .inr (.inr (.inr (.inl xcl)))))]) := hD
          subst hw
          refine lv_istore (lv' := [(5, .int ((nI (dsN k i)))), (0, .ref a), (1, .int (nI k)), (2, .int (optI o)), (3, .int v), (4, .int (nI i))]) hx hb dX3_sourceOf_30 hl (by decide) rfl (fun ls hl => ?_)
          refine lv_iload_n hx hb dX3_sourceOf_32 rfl (lv_at hl 3 rfl) ?_
          refine lv_iconst (v := (-1)) hx hb dX3_sourceOf_33 (by decide) ?_
          refine lv_icmp_eq (tgt := 43) hx hb dX3_sourceOf_34 (by decide) (fun c_34 => ?_) (fun c_34 => ?_)
          · skip
            refine lv_iload hx hb dX3_sourceOf_43 (lv_at hl 5 rfl) ?_
            refine lv_istore_n (lv' := [(2, .int (nI i)), (5, .int ((nI (dsN k i)))), (0, .ref a), (1, .int (nI k)), (3, .int v), (4, .int (nI i))]) hx hb dX3_sourceOf_45 rfl hl (by decide) rfl (fun ls hl => ?_)
            refine lv_iload hx hb dX3_sourceOf_46 (lv_at hl 1 rfl) ?_
            refine lv_istore_n (lv' := [(3, .int ((nI (dsN k i)))), (2, .int (nI i)), (5, .int ((nI (dsN k i)))), (0, .ref a), (1, .int (nI k)), (4, .int (nI i))]) hx hb dX3_sourceOf_48 rfl hl (by decide) rfl (fun ls hl => ?_)
            refine lv_iinc (v := (nI (i + 1))) (lv' := [(4, .int (nI (i + 1))), (3, .int ((nI (dsN k i)))), (2, .int (nI i)), (5, .int ((nI (dsN k i)))), (0, .ref a), (1, .int (nI k))]) hx hb dX3_sourceOf_49 hl (k := 5) rfl (by exact ix_add rfl rfl) (by decide) rfl (fun ls hl => ?_)
            refine lv_goto (tgt := 7) hx hb dX3_sourceOf_52 (by decide) ?_
            -- region (some i)
            exact ih_7 (i + 1) (some i) ((nI (dsN k i))) (by omega) (srcN_first ho hv c_21 c_34) (fun q h => by cases h; exact ⟨rfl, by omega⟩) (by omega) _ _ _ hP hD hS (lv_sub hl [4, 5, 2, 1, 0] rfl)
          · skip
            refine lv_iload hx hb dX3_sourceOf_37 (lv_at hl 0 rfl) ?_
            refine lv_iload_n hx hb dX3_sourceOf_39 rfl (lv_at hl 4 rfl) ?_
            refine lv_icmp_ge (tgt := 49) hx hb dX3_sourceOf_40 (by decide) (fun c_40 => ?_) (fun c_40 => ?_)
            · skip
              refine lv_iinc (v := (nI (i + 1))) (lv' := [(4, .int (nI (i + 1))), (5, .int ((nI (dsN k i)))), (0, .ref a), (1, .int (nI k)), (2, .int (optI o)), (3, .int v)]) hx hb dX3_sourceOf_49 hl (k := 5) rfl (by exact ix_add rfl rfl) (by decide) rfl (fun ls hl => ?_)
              refine lv_goto (tgt := 7) hx hb dX3_sourceOf_52 (by decide) ?_
              -- region o
              exact ih_7 (i + 1) o v (by omega) (srcN_far ho hv c_21 c_34 c_40 (by omega) hk) hv (by omega) _ _ _ hP hD hS (lv_sub hl [2, 3, 4, 5, 0] rfl)
            · skip
              refine lv_iload hx hb dX3_sourceOf_43 (lv_at hl 5 rfl) ?_
              refine lv_istore_n (lv' := [(2, .int (nI i)), (5, .int ((nI (dsN k i)))), (0, .ref a), (1, .int (nI k)), (3, .int v), (4, .int (nI i))]) hx hb dX3_sourceOf_45 rfl hl (by decide) rfl (fun ls hl => ?_)
              refine lv_iload hx hb dX3_sourceOf_46 (lv_at hl 1 rfl) ?_
              refine lv_istore_n (lv' := [(3, .int ((nI (dsN k i)))), (2, .int (nI i)), (5, .int ((nI (dsN k i)))), (0, .ref a), (1, .int (nI k)), (4, .int (nI i))]) hx hb dX3_sourceOf_48 rfl hl (by decide) rfl (fun ls hl => ?_)
              refine lv_iinc (v := (nI (i + 1))) (lv' := [(4, .int (nI (i + 1))), (3, .int ((nI (dsN k i)))), (2, .int (nI i)), (5, .int ((nI (dsN k i)))), (0, .ref a), (1, .int (nI k))]) hx hb dX3_sourceOf_49 hl (k := 5) rfl (by exact ix_add rfl rfl) (by decide) rfl (fun ls hl => ?_)
              refine lv_goto (tgt := 7) hx hb dX3_sourceOf_52 (by decide) ?_
              -- region (some i)
              exact ih_7 (i + 1) (some i) ((nI (dsN k i))) (by omega) (srcN_near ho hv c_21 c_34 c_40 (by omega) hk) (fun q h => by cases h; exact ⟨rfl, by omega⟩) (by omega) _ _ _ hP hD hS (lv_sub hl [4, 5, 2, 1, 0] rfl)
  exact LOOP_7 (24 - 0 + 1) 0 none 0 (Nat.zero_le _) rfl (fun q h => by cases h) (Nat.lt_succ_self _) _ _ _ hP hD hS (lv_sub hl [3, 4, 2, 1, 0] rfl)
abbrev rm_X3_holding : Room := { frames := 3, cells := 0, slots := 0, locals := 68 }
set_option maxHeartbeats 600000 in
set_option maxRecDepth 100000 in
theorem CX3_holding (l : Launch) (D : va_G) (g : Nat → ClassId) (sz : Nat) (a q1 q2 q3 : Nat) (xle : Nat → Int32) (xca xcl : Nat → UInt64) (k : Nat) (z : Int32) (f : Nat → UInt64) (hk : k < 24) (hz : (z = 0 → f = xca) ∧ (¬ z = 0 → f = xcl)) : Met l yX3_holding (Cond.code yX3_holding prog_5_method_6_code 4 (some .double) :: WA) rm_X3_holding (va_Pc [.ref a, .int (nI k), .int z] (Pre D g ([(a, .inr (3, [.ref q1, .ref q2, .ref q3])), (q1, .inl (g 0, 24, .inl xle)), (q2, .inl (g 1, 24, .inr (.inr (.inr (.inl xca))))), (q3, .inl (g 1, 24, .inr (.inr (.inr (.inl xcl)))))]) sz)) (va_Qd (fun (r : UInt64) (_ : Unit) => r = (hldF xle f k)) (fun (_ : Unit) t => Bp D g (va_A ([(a, .inr (3, [.ref q1, .ref q2, .ref q3])), (q1, .inl (g 0, 24, .inl xle)), (q2, .inl (g 1, 24, .inr (.inr (.inr (.inl xca))))), (q3, .inl (g 1, 24, .inr (.inr (.inr (.inl xcl)))))]) sz) ([(a, .inr (3, [.ref q1, .ref q2, .ref q3])), (q1, .inl (g 0, 24, .inl xle)), (q2, .inl (g 1, 24, .inr (.inr (.inr (.inl xca))))), (q3, .inl (g 1, 24, .inr (.inr (.inr (.inl xcl)))))]) t) (va_A ([(a, .inr (3, [.ref q1, .ref q2, .ref q3])), (q1, .inl (g 0, 24, .inl xle)), (q2, .inl (g 1, 24, .inr (.inr (.inr (.inl xca))))), (q3, .inl (g 1, 24, .inr (.inr (.inr (.inl xcl)))))]) sz)) 0 0 (va_A ([(a, .inr (3, [.ref q1, .ref q2, .ref q3])), (q1, .inl (g 0, 24, .inl xle)), (q2, .inl (g 1, 24, .inr (.inr (.inr (.inl xca))))), (q3, .inl (g 1, 24, .inr (.inr (.inr (.inl xcl)))))]) sz) := by
  refine g_met (av := [.ref a, .int (nI k), .int z]) (QcA := fun A => va_Qd (fun (r : UInt64) (_ : Unit) => r = (hldF xle f k)) (fun (_ : Unit) t => Bp D g A ([(a, .inr (3, [.ref q1, .ref q2, .ref q3])), (q1, .inl (g 0, 24, .inl xle)), (q2, .inl (g 1, 24, .inr (.inr (.inr (.inl xca))))), (q3, .inl (g 1, 24, .inr (.inr (.inr (.inl xcl)))))]) t) A) rfl (Nat.le_of_ble_eq_true rfl) ?_
  intro p e s m below meth c A Q ls E M hP hD hS hA hQ hl
  have hx := E.1.1
  have hb := E.1.2.1
  have hl : lv_has ls 4 [(0, .ref a), (1, .int (nI k)), (2, .int z)] := hl
  refine lv_aload_n hx hb dX3_holding_0 rfl (lv_at hl 0 rfl) ?_
  refine lv_iload_n hx hb dX3_holding_1 rfl (lv_at hl 1 rfl) ?_
  refine cl_X3_41 (As := [.int (nI k)]) (rest := []) (b := a) (wc := [(a, .inr (3, [.ref q1, .ref q2, .ref q3])), (q1, .inl (g 0, 24, .inl xle)), (q2, .inl (g 1, 24, .inr (.inr (.inr (.inl xca))))), (q3, .inl (g 1, 24, .inr (.inr (.inr (.inl xcl)))))]) (wr := []) (wn := (fun _ => [(a, .inr (3, [.ref q1, .ref q2, .ref q3])), (q1, .inl (g 0, 24, .inl xle)), (q2, .inl (g 1, 24, .inr (.inr (.inr (.inl xca))))), (q3, .inl (g 1, 24, .inr (.inr (.inr (.inl xcl)))))])) (isC := [0, 1, 2, 3]) (isR := []) (isP := [0, 1, 2, 3]) E hS hA hP hD ⟨rfl, rfl, rfl, rfl, by decide, fun _ => rfl, rfl⟩ (CX3_sourceOf l D g _ a q1 q2 q3 xle xca xcl k (by first | assumption | omega)) ⟨Nat.le_of_ble_eq_true rfl, Nat.le_of_ble_eq_true rfl⟩ rfl rfl 0 rfl rfl hl.1 rfl (Nat.le_of_ble_eq_true rfl) ⟨Nat.le_of_ble_eq_true rfl, Nat.le_of_ble_eq_true rfl⟩ dX3_holding_2 (fun r u H locs hw hP hD hS => ?_)
  have hP : va_P D vwCl ([(a, .inr (3, [.ref q1, .ref q2, .ref q3])), (q1, .inl (g 0, 24, .inl xle)), (q2, .inl (g 1, 24, .inr (.inr (.inr (.inl xca))))), (q3, .inl (g 1, 24, .inr (.inr (.inr (.inl xcl)))))]) H := hP
  have hD : va_D A ([(a, .inr (3, [.ref q1, .ref q2, .ref q3])), (q1, .inl (g 0, 24, .inl xle)), (q2, .inl (g 1, 24, .inr (.inr (.inr (.inl xca))))), (q3, .inl (g 1, 24, .inr (.inr (.inr (.inl xcl)))))]) := hD
  subst hw
  have hsl : ∀ q, srcN xle k 24 = some q → q < 24 := fun q h => srcN_lt 24 q h
  obtain ⟨o, eo⟩ : ∃ o, o = srcN xle k 24 := ⟨_, rfl⟩
  rw [← eo] at hsl ⊢
  refine lv_istore_n (lv' := [(3, .int (optI o)), (0, .ref a), (1, .int (nI k)), (2, .int z)]) hx hb dX3_holding_5 rfl hl (by decide) rfl (fun ls hl => ?_)
  refine lv_iload_n hx hb dX3_holding_6 rfl (lv_at hl 0 rfl) ?_
  refine lv_iconst (v := (-1)) hx hb dX3_holding_7 (by decide) ?_
  refine lv_icmp_ne (tgt := 13) hx hb dX3_holding_8 (by decide) (fun c_8 => ?_) (fun c_8 => ?_)
  · skip
    obtain ⟨q, eq⟩ : ∃ q, o = some q := by cases o with
      | none => exact absurd rfl c_8
      | some q => exact ⟨q, rfl⟩
    have hq := hsl q eq
    have e_q : optI o = nI q := by rw [eq]; rfl
    refine lv_iload_n hx hb dX3_holding_13 rfl (lv_at hl 3 rfl) ?_
    refine lv_if_eq (tgt := 26) hx hb dX3_holding_14 (by decide) (fun c_14 => ?_) (fun c_14 => ?_)
    · skip
      refine lv_aload_n hx hb dX3_holding_26 rfl (lv_at hl 1 rfl) ?_
      refine gf_X3_15 E hP 0 rfl rfl dX3_holding_27 ?_
      refine lv_iload_n hx hb dX3_holding_30 rfl (lv_at hl 0 rfl) ?_
      refine g_dald E hP 2 rfl q e_q hq (Nat.le_of_ble_eq_true rfl) dX3_holding_31 ?_
      have hL : ((xca q) : UInt64) = (hldF xle f k) := by unfold hldF; rw [← eo, eq, hz.1 c_14]
      exact g_dret hQ E M rfl hS hP hD () rfl (hL) dX3_holding_32
    · skip
      refine lv_aload_n hx hb dX3_holding_17 rfl (lv_at hl 1 rfl) ?_
      refine gf_X3_19 E hP 0 rfl rfl dX3_holding_18 ?_
      refine lv_iload_n hx hb dX3_holding_21 rfl (lv_at hl 0 rfl) ?_
      refine g_dald E hP 3 rfl q e_q hq (Nat.le_of_ble_eq_true rfl) dX3_holding_22 ?_
      refine lv_goto (tgt := 32) hx hb dX3_holding_23 (by decide) ?_
      have hL : ((xcl q) : UInt64) = (hldF xle f k) := by unfold hldF; rw [← eo, eq, hz.2 c_14]
      exact g_dret hQ E M rfl hS hP hD () rfl (hL) dX3_holding_32
  · skip
    refine lv_dconst0 hx hb dX3_holding_11 ?_
    have hL : (FP.dconst0 : UInt64) = (hldF xle f k) := by unfold hldF; rw [← eo, (optI_m1 hsl).mp c_8]
    exact g_dret hQ E M rfl hS hP hD () rfl (hL) dX3_holding_12
abbrev rm_X3_teach : Room := { frames := 0, cells := 0, slots := 0, locals := 0 }
set_option maxHeartbeats 600000 in
set_option maxRecDepth 100000 in
theorem CX3_teach (l : Launch) (D : va_G) (g : Nat → ClassId) (sz : Nat) (a q1 q2 q3 : Nat) (xle : Nat → Int32) (xca xcl : Nat → UInt64) (b : Nat) (k : Nat) (v : Int32) (ys yd yz yh yl : Int32) (yha yhh yma ymh : UInt64) (hk : k < 24) (h1 : tchOK (if xle k = 0 then yha else xca k) yma v) (h2 : tchOK (if xle k = 0 then yhh else xcl k) ymh v) : Met l yX3_teach (Cond.code yX3_teach prog_5_method_7_code 4 (some .int) :: WA) rm_X3_teach (va_Pc [.ref a, .ref b, .int v] (Pre D g ([(a, .inr (3, [.ref q1, .ref q2, .ref q3])), (q1, .inl (g 0, 24, .inl xle)), (q2, .inl (g 1, 24, .inr (.inr (.inr (.inl xca))))), (q3, .inl (g 1, 24, .inr (.inr (.inr (.inl xcl))))), (b, .inr (0, [.int ys, .int yd, .int (nI k), .int yz, .int yh, .double yha, .double yhh, .double yma, .double ymh, .int yl]))]) sz)) (va_Qi (fun (r : Int32) (_ : Unit) => r = (xle k + 1)) (fun (_ : Unit) t => Bp D g (va_A ([(a, .inr (3, [.ref q1, .ref q2, .ref q3])), (q1, .inl (g 0, 24, .inl xle)), (q2, .inl (g 1, 24, .inr (.inr (.inr (.inl xca))))), (q3, .inl (g 1, 24, .inr (.inr (.inr (.inl xcl))))), (b, .inr (0, [.int ys, .int yd, .int (nI k), .int yz, .int yh, .double yha, .double yhh, .double yma, .double ymh, .int yl]))]) sz) ([(a, .inr (3, [.ref q1, .ref q2, .ref q3])), (q1, .inl (g 0, 24, .inl (upd xle k (xle k + 1)))), (q2, .inl (g 1, 24, .inr (.inr (.inr (.inl (vf_upd xca k (tchF (if xle k = 0 then yha else xca k) yma v))))))), (q3, .inl (g 1, 24, .inr (.inr (.inr (.inl (vf_upd xcl k (tchF (if xle k = 0 then yhh else xcl k) ymh v))))))), (b, .inr (0, [.int ys, .int yd, .int (nI k), .int yz, .int yh, .double yha, .double yhh, .double yma, .double ymh, .int yl]))]) t) (va_A ([(a, .inr (3, [.ref q1, .ref q2, .ref q3])), (q1, .inl (g 0, 24, .inl xle)), (q2, .inl (g 1, 24, .inr (.inr (.inr (.inl xca))))), (q3, .inl (g 1, 24, .inr (.inr (.inr (.inl xcl))))), (b, .inr (0, [.int ys, .int yd, .int (nI k), .int yz, .int yh, .double yha, .double yhh, .double yma, .double ymh, .int yl]))]) sz)) 0 0 (va_A ([(a, .inr (3, [.ref q1, .ref q2, .ref q3])), (q1, .inl (g 0, 24, .inl xle)), (q2, .inl (g 1, 24, .inr (.inr (.inr (.inl xca))))), (q3, .inl (g 1, 24, .inr (.inr (.inr (.inl xcl))))), (b, .inr (0, [.int ys, .int yd, .int (nI k), .int yz, .int yh, .double yha, .double yhh, .double yma, .double ymh, .int yl]))]) sz) := by
  refine g_met (av := [.ref a, .ref b, .int v]) (QcA := fun A => va_Qi (fun (r : Int32) (_ : Unit) => r = (xle k + 1)) (fun (_ : Unit) t => Bp D g A ([(a, .inr (3, [.ref q1, .ref q2, .ref q3])), (q1, .inl (g 0, 24, .inl (upd xle k (xle k + 1)))), (q2, .inl (g 1, 24, .inr (.inr (.inr (.inl (vf_upd xca k (tchF (if xle k = 0 then yha else xca k) yma v))))))), (q3, .inl (g 1, 24, .inr (.inr (.inr (.inl (vf_upd xcl k (tchF (if xle k = 0 then yhh else xcl k) ymh v))))))), (b, .inr (0, [.int ys, .int yd, .int (nI k), .int yz, .int yh, .double yha, .double yhh, .double yma, .double ymh, .int yl]))]) t) A) rfl (Nat.le_of_ble_eq_true rfl) ?_
  intro p e s m below meth c A Q ls E M hP hD hS hA hQ hl
  have hx := E.1.1
  have hb := E.1.2.1
  have hl : lv_has ls 4 [(0, .ref a), (1, .ref b), (2, .int v)] := hl
  refine lv_aload_n hx hb dX3_teach_0 rfl (lv_at hl 1 rfl) ?_
  refine gf_X3_44 E hP 4 rfl rfl dX3_teach_1 ?_
  refine lv_istore_n (lv' := [(3, .int (nI k)), (0, .ref a), (1, .ref b), (2, .int v)]) hx hb dX3_teach_4 rfl hl (by decide) rfl (fun ls hl => ?_)
  refine lv_aload_n hx hb dX3_teach_5 rfl (lv_at hl 1 rfl) ?_
  refine gf_X3_9 E hP 0 rfl rfl dX3_teach_6 ?_
  refine lv_iload_n hx hb dX3_teach_9 rfl (lv_at hl 0 rfl) ?_
  refine g_iald E hP 1 rfl k rfl (by omega) (Nat.le_of_ble_eq_true rfl) dX3_teach_10 ?_
  refine lv_if_ne (tgt := 34) hx hb dX3_teach_11 (by decide) (fun c_11 => ?_) (fun c_11 => ?_)
  · skip
    refine lv_aload_n hx hb dX3_teach_34 rfl (lv_at hl 1 rfl) ?_
    refine gf_X3_15 E hP 0 rfl rfl dX3_teach_35 ?_
    refine lv_iload_n hx hb dX3_teach_38 rfl (lv_at hl 0 rfl) ?_
    refine lv_aload_n hx hb dX3_teach_39 rfl (lv_at hl 1 rfl) ?_
    refine gf_X3_15 E hP 0 rfl rfl dX3_teach_40 ?_
    refine lv_iload_n hx hb dX3_teach_43 rfl (lv_at hl 0 rfl) ?_
    refine g_dald E hP 2 rfl k rfl (by omega) (Nat.le_of_ble_eq_true rfl) dX3_teach_44 ?_
    refine lv_aload_n hx hb dX3_teach_45 rfl (lv_at hl 2 rfl) ?_
    refine gf_X3_57 E hP 4 rfl rfl dX3_teach_46 ?_
    refine lv_iload_n hx hb dX3_teach_49 rfl (lv_at hl 3 rfl) ?_
    refine lv_i2d hx hb dX3_teach_50 ?_
    refine lv_dmul hx hb dX3_teach_51 h1.1 ?_
    refine gk_X3_60 E dX3_teach_52 ?_
    refine lv_ddiv hx hb dX3_teach_55 h1.2.1 ?_
    refine lv_dadd hx hb dX3_teach_56 (by have h := h1.2.2; simp only [if_neg c_11, tchF, vf_us] at h ⊢; exact h) ?_
    refine g_dast E hP hD hS 2 rfl k rfl (by omega) (Nat.le_of_ble_eq_true rfl) dX3_teach_57 (fun H locs hP hD hS => ?_)
    have hP : va_P D vwCl ([(a, .inr (3, [.ref q1, .ref q2, .ref q3])), (q1, .inl (g 0, 24, .inl xle)), (q2, .inl (g 1, 24, .inr (.inr (.inr (.inl (vf_upd xca k (FP.dadd (xca k) (FP.ddiv (FP.dmul yma (FP.i2d v)) 4636737291354636288)))))))), (q3, .inl (g 1, 24, .inr (.inr (.inr (.inl xcl))))), (b, .inr (0, [.int ys, .int yd, .int (nI k), .int yz, .int yh, .double yha, .double yhh, .double yma, .double ymh, .int yl]))]) H := hP
    have hD : va_D A ([(a, .inr (3, [.ref q1, .ref q2, .ref q3])), (q1, .inl (g 0, 24, .inl xle)), (q2, .inl (g 1, 24, .inr (.inr (.inr (.inl (vf_upd xca k (FP.dadd (xca k) (FP.ddiv (FP.dmul yma (FP.i2d v)) 4636737291354636288)))))))), (q3, .inl (g 1, 24, .inr (.inr (.inr (.inl xcl))))), (b, .inr (0, [.int ys, .int yd, .int (nI k), .int yz, .int yh, .double yha, .double yhh, .double yma, .double ymh, .int yl]))]) := hD
    refine lv_aload_n hx hb dX3_teach_58 rfl (lv_at hl 1 rfl) ?_
    refine gf_X3_19 E hP 0 rfl rfl dX3_teach_59 ?_
    refine lv_iload_n hx hb dX3_teach_62 rfl (lv_at hl 0 rfl) ?_
    refine lv_aload_n hx hb dX3_teach_63 rfl (lv_at hl 1 rfl) ?_
    refine gf_X3_19 E hP 0 rfl rfl dX3_teach_64 ?_
    refine lv_iload_n hx hb dX3_teach_67 rfl (lv_at hl 0 rfl) ?_
    refine g_dald E hP 3 rfl k rfl (by omega) (Nat.le_of_ble_eq_true rfl) dX3_teach_68 ?_
    refine lv_aload_n hx hb dX3_teach_69 rfl (lv_at hl 2 rfl) ?_
    refine gf_X3_62 E hP 4 rfl rfl dX3_teach_70 ?_
    refine lv_iload_n hx hb dX3_teach_73 rfl (lv_at hl 3 rfl) ?_
    refine lv_i2d hx hb dX3_teach_74 ?_
    refine lv_dmul hx hb dX3_teach_75 h2.1 ?_
    refine gk_X3_60 E dX3_teach_76 ?_
    refine lv_ddiv hx hb dX3_teach_79 h2.2.1 ?_
    refine lv_dadd hx hb dX3_teach_80 (by have h := h2.2.2; simp only [if_neg c_11, tchF, vf_us] at h ⊢; exact h) ?_
    refine g_dast E hP hD hS 3 rfl k rfl (by omega) (Nat.le_of_ble_eq_true rfl) dX3_teach_81 (fun H locs hP hD hS => ?_)
    have hP : va_P D vwCl ([(a, .inr (3, [.ref q1, .ref q2, .ref q3])), (q1, .inl (g 0, 24, .inl xle)), (q2, .inl (g 1, 24, .inr (.inr (.inr (.inl (vf_upd xca k (FP.dadd (xca k) (FP.ddiv (FP.dmul yma (FP.i2d v)) 4636737291354636288)))))))), (q3, .inl (g 1, 24, .inr (.inr (.inr (.inl (vf_upd xcl k (FP.dadd (xcl k) (FP.ddiv (FP.dmul ymh (FP.i2d v)) 4636737291354636288)))))))), (b, .inr (0, [.int ys, .int yd, .int (nI k), .int yz, .int yh, .double yha, .double yhh, .double yma, .double ymh, .int yl]))]) H := hP
    have hD : va_D A ([(a, .inr (3, [.ref q1, .ref q2, .ref q3])), (q1, .inl (g 0, 24, .inl xle)), (q2, .inl (g 1, 24, .inr (.inr (.inr (.inl (vf_upd xca k (FP.dadd (xca k) (FP.ddiv (FP.dmul yma (FP.i2d v)) 4636737291354636288)))))))), (q3, .inl (g 1, 24, .inr (.inr (.inr (.inl (vf_upd xcl k (FP.dadd (xcl k) (FP.ddiv (FP.dmul ymh (FP.i2d v)) 4636737291354636288)))))))), (b, .inr (0, [.int ys, .int yd, .int (nI k), .int yz, .int yh, .double yha, .double yhh, .double yma, .double ymh, .int yl]))]) := hD
    refine lv_aload_n hx hb dX3_teach_82 rfl (lv_at hl 1 rfl) ?_
    refine gf_X3_9 E hP 0 rfl rfl dX3_teach_83 ?_
    refine lv_iload_n hx hb dX3_teach_86 rfl (lv_at hl 0 rfl) ?_
    refine lv_dup2_11 hx hb dX3_teach_87 rfl rfl ?_
    refine g_iald E hP 1 rfl k rfl (by omega) (Nat.le_of_ble_eq_true rfl) dX3_teach_88 ?_
    refine lv_iconst (v := 1) hx hb dX3_teach_89 (by decide) ?_
    refine lv_iadd hx hb dX3_teach_90 ?_
    refine g_iast E hP hD hS 1 rfl k rfl (by omega) (Nat.le_of_ble_eq_true rfl) dX3_teach_91 (fun H locs hP hD hS => ?_)
    have hP : va_P D vwCl ([(a, .inr (3, [.ref q1, .ref q2, .ref q3])), (q1, .inl (g 0, 24, .inl (upd xle k ((xle k) + 1)))), (q2, .inl (g 1, 24, .inr (.inr (.inr (.inl (vf_upd xca k (FP.dadd (xca k) (FP.ddiv (FP.dmul yma (FP.i2d v)) 4636737291354636288)))))))), (q3, .inl (g 1, 24, .inr (.inr (.inr (.inl (vf_upd xcl k (FP.dadd (xcl k) (FP.ddiv (FP.dmul ymh (FP.i2d v)) 4636737291354636288)))))))), (b, .inr (0, [.int ys, .int yd, .int (nI k), .int yz, .int yh, .double yha, .double yhh, .double yma, .double ymh, .int yl]))]) H := hP
    have hD : va_D A ([(a, .inr (3, [.ref q1, .ref q2, .ref q3])), (q1, .inl (g 0, 24, .inl (upd xle k ((xle k) + 1)))), (q2, .inl (g 1, 24, .inr (.inr (.inr (.inl (vf_upd xca k (FP.dadd (xca k) (FP.ddiv (FP.dmul yma (FP.i2d v)) 4636737291354636288)))))))), (q3, .inl (g 1, 24, .inr (.inr (.inr (.inl (vf_upd xcl k (FP.dadd (xcl k) (FP.ddiv (FP.dmul ymh (FP.i2d v)) 4636737291354636288)))))))), (b, .inr (0, [.int ys, .int yd, .int (nI k), .int yz, .int yh, .double yha, .double yhh, .double yma, .double ymh, .int yl]))]) := hD
    refine lv_aload_n hx hb dX3_teach_92 rfl (lv_at hl 1 rfl) ?_
    refine gf_X3_9 E hP 0 rfl rfl dX3_teach_93 ?_
    refine lv_iload_n hx hb dX3_teach_96 rfl (lv_at hl 0 rfl) ?_
    refine g_iald E hP 1 rfl k rfl (by omega) (Nat.le_of_ble_eq_true rfl) dX3_teach_97 ?_
    have hL : (((upd xle k ((xle k) + 1)) k) : Int32) = (xle k + 1) := pk_us
    exact g_iret hQ E M rfl hS hP hD () (by simp only [if_neg c_11, vf_uu, tchF, vf_us]) (hL) dX3_teach_98
  · skip
    refine lv_aload_n hx hb dX3_teach_14 rfl (lv_at hl 1 rfl) ?_
    refine gf_X3_15 E hP 0 rfl rfl dX3_teach_15 ?_
    refine lv_iload_n hx hb dX3_teach_18 rfl (lv_at hl 0 rfl) ?_
    refine lv_aload_n hx hb dX3_teach_19 rfl (lv_at hl 2 rfl) ?_
    refine gf_X3_50 E hP 4 rfl rfl dX3_teach_20 ?_
    refine g_dast E hP hD hS 2 rfl k rfl (by omega) (Nat.le_of_ble_eq_true rfl) dX3_teach_23 (fun H locs hP hD hS => ?_)
    have hP : va_P D vwCl ([(a, .inr (3, [.ref q1, .ref q2, .ref q3])), (q1, .inl (g 0, 24, .inl xle)), (q2, .inl (g 1, 24, .inr (.inr (.inr (.inl (vf_upd xca k yha)))))), (q3, .inl (g 1, 24, .inr (.inr (.inr (.inl xcl))))), (b, .inr (0, [.int ys, .int yd, .int (nI k), .int yz, .int yh, .double yha, .double yhh, .double yma, .double ymh, .int yl]))]) H := hP
    have hD : va_D A ([(a, .inr (3, [.ref q1, .ref q2, .ref q3])), (q1, .inl (g 0, 24, .inl xle)), (q2, .inl (g 1, 24, .inr (.inr (.inr (.inl (vf_upd xca k yha)))))), (q3, .inl (g 1, 24, .inr (.inr (.inr (.inl xcl))))), (b, .inr (0, [.int ys, .int yd, .int (nI k), .int yz, .int yh, .double yha, .double yhh, .double yma, .double ymh, .int yl]))]) := hD
    refine lv_aload_n hx hb dX3_teach_24 rfl (lv_at hl 1 rfl) ?_
    refine gf_X3_19 E hP 0 rfl rfl dX3_teach_25 ?_
    refine lv_iload_n hx hb dX3_teach_28 rfl (lv_at hl 0 rfl) ?_
    refine lv_aload_n hx hb dX3_teach_29 rfl (lv_at hl 2 rfl) ?_
    refine gf_X3_54 E hP 4 rfl rfl dX3_teach_30 ?_
    refine g_dast E hP hD hS 3 rfl k rfl (by omega) (Nat.le_of_ble_eq_true rfl) dX3_teach_33 (fun H locs hP hD hS => ?_)
    have hP : va_P D vwCl ([(a, .inr (3, [.ref q1, .ref q2, .ref q3])), (q1, .inl (g 0, 24, .inl xle)), (q2, .inl (g 1, 24, .inr (.inr (.inr (.inl (vf_upd xca k yha)))))), (q3, .inl (g 1, 24, .inr (.inr (.inr (.inl (vf_upd xcl k yhh)))))), (b, .inr (0, [.int ys, .int yd, .int (nI k), .int yz, .int yh, .double yha, .double yhh, .double yma, .double ymh, .int yl]))]) H := hP
    have hD : va_D A ([(a, .inr (3, [.ref q1, .ref q2, .ref q3])), (q1, .inl (g 0, 24, .inl xle)), (q2, .inl (g 1, 24, .inr (.inr (.inr (.inl (vf_upd xca k yha)))))), (q3, .inl (g 1, 24, .inr (.inr (.inr (.inl (vf_upd xcl k yhh)))))), (b, .inr (0, [.int ys, .int yd, .int (nI k), .int yz, .int yh, .double yha, .double yhh, .double yma, .double ymh, .int yl]))]) := hD
    refine lv_aload_n hx hb dX3_teach_34 rfl (lv_at hl 1 rfl) ?_
    refine gf_X3_15 E hP 0 rfl rfl dX3_teach_35 ?_
    refine lv_iload_n hx hb dX3_teach_38 rfl (lv_at hl 0 rfl) ?_
    refine lv_aload_n hx hb dX3_teach_39 rfl (lv_at hl 1 rfl) ?_
    refine gf_X3_15 E hP 0 rfl rfl dX3_teach_40 ?_
    refine lv_iload_n hx hb dX3_teach_43 rfl (lv_at hl 0 rfl) ?_
    refine g_dald E hP 2 rfl k rfl (by omega) (Nat.le_of_ble_eq_true rfl) dX3_teach_44 ?_
    refine lv_aload_n hx hb dX3_teach_45 rfl (lv_at hl 2 rfl) ?_
    refine gf_X3_57 E hP 4 rfl rfl dX3_teach_46 ?_
    refine lv_iload_n hx hb dX3_teach_49 rfl (lv_at hl 3 rfl) ?_
    refine lv_i2d hx hb dX3_teach_50 ?_
    refine lv_dmul hx hb dX3_teach_51 h1.1 ?_
    refine gk_X3_60 E dX3_teach_52 ?_
    refine lv_ddiv hx hb dX3_teach_55 h1.2.1 ?_
    refine lv_dadd hx hb dX3_teach_56 (by have h := h1.2.2; simp only [if_pos c_11, tchF, vf_us] at h ⊢; exact h) ?_
    refine g_dast E hP hD hS 2 rfl k rfl (by omega) (Nat.le_of_ble_eq_true rfl) dX3_teach_57 (fun H locs hP hD hS => ?_)
    have hP : va_P D vwCl ([(a, .inr (3, [.ref q1, .ref q2, .ref q3])), (q1, .inl (g 0, 24, .inl xle)), (q2, .inl (g 1, 24, .inr (.inr (.inr (.inl (vf_upd (vf_upd xca k yha) k (FP.dadd ((vf_upd xca k yha) k) (FP.ddiv (FP.dmul yma (FP.i2d v)) 4636737291354636288)))))))), (q3, .inl (g 1, 24, .inr (.inr (.inr (.inl (vf_upd xcl k yhh)))))), (b, .inr (0, [.int ys, .int yd, .int (nI k), .int yz, .int yh, .double yha, .double yhh, .double yma, .double ymh, .int yl]))]) H := hP
    have hD : va_D A ([(a, .inr (3, [.ref q1, .ref q2, .ref q3])), (q1, .inl (g 0, 24, .inl xle)), (q2, .inl (g 1, 24, .inr (.inr (.inr (.inl (vf_upd (vf_upd xca k yha) k (FP.dadd ((vf_upd xca k yha) k) (FP.ddiv (FP.dmul yma (FP.i2d v)) 4636737291354636288)))))))), (q3, .inl (g 1, 24, .inr (.inr (.inr (.inl (vf_upd xcl k yhh)))))), (b, .inr (0, [.int ys, .int yd, .int (nI k), .int yz, .int yh, .double yha, .double yhh, .double yma, .double ymh, .int yl]))]) := hD
    refine lv_aload_n hx hb dX3_teach_58 rfl (lv_at hl 1 rfl) ?_
    refine gf_X3_19 E hP 0 rfl rfl dX3_teach_59 ?_
    refine lv_iload_n hx hb dX3_teach_62 rfl (lv_at hl 0 rfl) ?_
    refine lv_aload_n hx hb dX3_teach_63 rfl (lv_at hl 1 rfl) ?_
    refine gf_X3_19 E hP 0 rfl rfl dX3_teach_64 ?_
    refine lv_iload_n hx hb dX3_teach_67 rfl (lv_at hl 0 rfl) ?_
    refine g_dald E hP 3 rfl k rfl (by omega) (Nat.le_of_ble_eq_true rfl) dX3_teach_68 ?_
    refine lv_aload_n hx hb dX3_teach_69 rfl (lv_at hl 2 rfl) ?_
    refine gf_X3_62 E hP 4 rfl rfl dX3_teach_70 ?_
    refine lv_iload_n hx hb dX3_teach_73 rfl (lv_at hl 3 rfl) ?_
    refine lv_i2d hx hb dX3_teach_74 ?_
    refine lv_dmul hx hb dX3_teach_75 h2.1 ?_
    refine gk_X3_60 E dX3_teach_76 ?_
    refine lv_ddiv hx hb dX3_teach_79 h2.2.1 ?_
    refine lv_dadd hx hb dX3_teach_80 (by have h := h2.2.2; simp only [if_pos c_11, tchF, vf_us] at h ⊢; exact h) ?_
    refine g_dast E hP hD hS 3 rfl k rfl (by omega) (Nat.le_of_ble_eq_true rfl) dX3_teach_81 (fun H locs hP hD hS => ?_)
    have hP : va_P D vwCl ([(a, .inr (3, [.ref q1, .ref q2, .ref q3])), (q1, .inl (g 0, 24, .inl xle)), (q2, .inl (g 1, 24, .inr (.inr (.inr (.inl (vf_upd (vf_upd xca k yha) k (FP.dadd ((vf_upd xca k yha) k) (FP.ddiv (FP.dmul yma (FP.i2d v)) 4636737291354636288)))))))), (q3, .inl (g 1, 24, .inr (.inr (.inr (.inl (vf_upd (vf_upd xcl k yhh) k (FP.dadd ((vf_upd xcl k yhh) k) (FP.ddiv (FP.dmul ymh (FP.i2d v)) 4636737291354636288)))))))), (b, .inr (0, [.int ys, .int yd, .int (nI k), .int yz, .int yh, .double yha, .double yhh, .double yma, .double ymh, .int yl]))]) H := hP
    have hD : va_D A ([(a, .inr (3, [.ref q1, .ref q2, .ref q3])), (q1, .inl (g 0, 24, .inl xle)), (q2, .inl (g 1, 24, .inr (.inr (.inr (.inl (vf_upd (vf_upd xca k yha) k (FP.dadd ((vf_upd xca k yha) k) (FP.ddiv (FP.dmul yma (FP.i2d v)) 4636737291354636288)))))))), (q3, .inl (g 1, 24, .inr (.inr (.inr (.inl (vf_upd (vf_upd xcl k yhh) k (FP.dadd ((vf_upd xcl k yhh) k) (FP.ddiv (FP.dmul ymh (FP.i2d v)) 4636737291354636288)))))))), (b, .inr (0, [.int ys, .int yd, .int (nI k), .int yz, .int yh, .double yha, .double yhh, .double yma, .double ymh, .int yl]))]) := hD
    refine lv_aload_n hx hb dX3_teach_82 rfl (lv_at hl 1 rfl) ?_
    refine gf_X3_9 E hP 0 rfl rfl dX3_teach_83 ?_
    refine lv_iload_n hx hb dX3_teach_86 rfl (lv_at hl 0 rfl) ?_
    refine lv_dup2_11 hx hb dX3_teach_87 rfl rfl ?_
    refine g_iald E hP 1 rfl k rfl (by omega) (Nat.le_of_ble_eq_true rfl) dX3_teach_88 ?_
    refine lv_iconst (v := 1) hx hb dX3_teach_89 (by decide) ?_
    refine lv_iadd hx hb dX3_teach_90 ?_
    refine g_iast E hP hD hS 1 rfl k rfl (by omega) (Nat.le_of_ble_eq_true rfl) dX3_teach_91 (fun H locs hP hD hS => ?_)
    have hP : va_P D vwCl ([(a, .inr (3, [.ref q1, .ref q2, .ref q3])), (q1, .inl (g 0, 24, .inl (upd xle k ((xle k) + 1)))), (q2, .inl (g 1, 24, .inr (.inr (.inr (.inl (vf_upd (vf_upd xca k yha) k (FP.dadd ((vf_upd xca k yha) k) (FP.ddiv (FP.dmul yma (FP.i2d v)) 4636737291354636288)))))))), (q3, .inl (g 1, 24, .inr (.inr (.inr (.inl (vf_upd (vf_upd xcl k yhh) k (FP.dadd ((vf_upd xcl k yhh) k) (FP.ddiv (FP.dmul ymh (FP.i2d v)) 4636737291354636288)))))))), (b, .inr (0, [.int ys, .int yd, .int (nI k), .int yz, .int yh, .double yha, .double yhh, .double yma, .double ymh, .int yl]))]) H := hP
    have hD : va_D A ([(a, .inr (3, [.ref q1, .ref q2, .ref q3])), (q1, .inl (g 0, 24, .inl (upd xle k ((xle k) + 1)))), (q2, .inl (g 1, 24, .inr (.inr (.inr (.inl (vf_upd (vf_upd xca k yha) k (FP.dadd ((vf_upd xca k yha) k) (FP.ddiv (FP.dmul yma (FP.i2d v)) 4636737291354636288)))))))), (q3, .inl (g 1, 24, .inr (.inr (.inr (.inl (vf_upd (vf_upd xcl k yhh) k (FP.dadd ((vf_upd xcl k yhh) k) (FP.ddiv (FP.dmul ymh (FP.i2d v)) 4636737291354636288)))))))), (b, .inr (0, [.int ys, .int yd, .int (nI k), .int yz, .int yh, .double yha, .double yhh, .double yma, .double ymh, .int yl]))]) := hD
    refine lv_aload_n hx hb dX3_teach_92 rfl (lv_at hl 1 rfl) ?_
    refine gf_X3_9 E hP 0 rfl rfl dX3_teach_93 ?_
    refine lv_iload_n hx hb dX3_teach_96 rfl (lv_at hl 0 rfl) ?_
    refine g_iald E hP 1 rfl k rfl (by omega) (Nat.le_of_ble_eq_true rfl) dX3_teach_97 ?_
    have hL : (((upd xle k ((xle k) + 1)) k) : Int32) = (xle k + 1) := pk_us
    exact g_iret hQ E M rfl hS hP hD () (by simp only [if_pos c_11, vf_uu, tchF, vf_us]) (hL) dX3_teach_98
abbrev rm_X3_allLessons : Room := { frames := 0, cells := 0, slots := 0, locals := 0 }
set_option maxHeartbeats 600000 in
set_option maxRecDepth 100000 in
theorem CX3_allLessons (l : Launch) (D : va_G) (g : Nat → ClassId) (sz : Nat) (a q1 q2 q3 : Nat) (xle : Nat → Int32) (xca xcl : Nat → UInt64) : Met l yX3_allLessons (Cond.code yX3_allLessons prog_5_method_8_code 3 (some .int) :: WA) rm_X3_allLessons (va_Pc [.ref a] (Pre D g ([(a, .inr (3, [.ref q1, .ref q2, .ref q3])), (q1, .inl (g 0, 24, .inl xle)), (q2, .inl (g 1, 24, .inr (.inr (.inr (.inl xca))))), (q3, .inl (g 1, 24, .inr (.inr (.inr (.inl xcl)))))]) sz)) (va_Qi (fun (r : Int32) (_ : Unit) => r = (sumI xle 24)) (fun (_ : Unit) t => Bp D g (va_A ([(a, .inr (3, [.ref q1, .ref q2, .ref q3])), (q1, .inl (g 0, 24, .inl xle)), (q2, .inl (g 1, 24, .inr (.inr (.inr (.inl xca))))), (q3, .inl (g 1, 24, .inr (.inr (.inr (.inl xcl)))))]) sz) ([(a, .inr (3, [.ref q1, .ref q2, .ref q3])), (q1, .inl (g 0, 24, .inl xle)), (q2, .inl (g 1, 24, .inr (.inr (.inr (.inl xca))))), (q3, .inl (g 1, 24, .inr (.inr (.inr (.inl xcl)))))]) t) (va_A ([(a, .inr (3, [.ref q1, .ref q2, .ref q3])), (q1, .inl (g 0, 24, .inl xle)), (q2, .inl (g 1, 24, .inr (.inr (.inr (.inl xca))))), (q3, .inl (g 1, 24, .inr (.inr (.inr (.inl xcl)))))]) sz)) 0 0 (va_A ([(a, .inr (3, [.ref q1, .ref q2, .ref q3])), (q1, .inl (g 0, 24, .inl xle)), (q2, .inl (g 1, 24, .inr (.inr (.inr (.inl xca))))), (q3, .inl (g 1, 24, .inr (.inr (.inr (.inl xcl)))))]) sz) := by
  refine g_met (av := [.ref a]) (QcA := fun A => va_Qi (fun (r : Int32) (_ : Unit) => r = (sumI xle 24)) (fun (_ : Unit) t => Bp D g A ([(a, .inr (3, [.ref q1, .ref q2, .ref q3])), (q1, .inl (g 0, 24, .inl xle)), (q2, .inl (g 1, 24, .inr (.inr (.inr (.inl xca))))), (q3, .inl (g 1, 24, .inr (.inr (.inr (.inl xcl)))))]) t) A) rfl (Nat.le_of_ble_eq_true rfl) ?_
  intro p e s m below meth c A Q ls E M hP hD hS hA hQ hl
  have hx := E.1.1
  have hb := E.1.2.1
  have hl : lv_has ls 3 [(0, .ref a)] := hl
  refine lv_iconst (v := 0) hx hb dX3_allLessons_0 (by decide) ?_
  refine lv_istore_n (lv' := [(1, .int 0), (0, .ref a)]) hx hb dX3_allLessons_1 rfl hl (by decide) rfl (fun ls hl => ?_)
  refine lv_iconst (v := 0) hx hb dX3_allLessons_2 (by decide) ?_
  refine lv_istore_n (lv' := [(2, .int 0), (1, .int 0), (0, .ref a)]) hx hb dX3_allLessons_3 rfl hl (by decide) rfl (fun ls hl => ?_)
  have LOOP_4 : ∀ (fu_4 : Nat) (i : Nat) (v : Int32) (hi : i ≤ 24) (hv : v = sumI xle i) (hf_4 : 24 - i < fu_4) (H : Heap) (locs : List Loc) (ls : Array Slot), va_P D vwCl ([(a, .inr (3, [.ref q1, .ref q2, .ref q3])), (q1, .inl (g 0, 24, .inl xle)), (q2, .inl (g 1, 24, .inr (.inr (.inr (.inl xca))))), (q3, .inl (g 1, 24, .inr (.inr (.inr (.inl xcl)))))]) H → va_D A ([(a, .inr (3, [.ref q1, .ref q2, .ref q3])), (q1, .inl (g 0, 24, .inl xle)), (q2, .inl (g 1, 24, .inr (.inr (.inr (.inl xca))))), (q3, .inl (g 1, 24, .inr (.inr (.inr (.inl xcl)))))]) → va_S A s.heap H locs → lv_has ls 3 [(0, .ref a), (1, .int v), (2, .int (nI i))] → W p l e rm_X3_allLessons s m ([.ref a] : List Value).toArray below meth c H locs 0 0 Q (F0 m 4 ls []) := by
    intro fu_4
    induction fu_4 with
    | zero => intro i v hi hv hf_4; exact absurd hf_4 (Nat.not_lt_zero _)
    | succ fu_4 ih_4 =>
      intro i v hi hv hf_4 H locs ls hP hD hS hl
      refine lv_iload_n hx hb dX3_allLessons_4 rfl (lv_at hl 2 rfl) ?_
      refine lv_bipush (v := 24) hx hb dX3_allLessons_5 (by decide) ?_
      refine lv_icmp_ge (tgt := 25) hx hb dX3_allLessons_7 (by decide) (fun c_7 => ?_) (fun c_7 => ?_)
      · skip
        refine lv_iload_n hx hb dX3_allLessons_25 rfl (lv_at hl 1 rfl) ?_
        have hL : (v : Int32) = (sumI xle 24) := by rw [hv]; congr 1; have : 24 ≤ i := nI_le_of c_7 (by decide) (by omega); omega
        exact g_iret hQ E M rfl hS hP hD () rfl (hL) dX3_allLessons_26
      · skip
        have hlt : i < 24 := nI_nle_of c_7 (by decide) (by omega)
        refine lv_iload_n hx hb dX3_allLessons_10 rfl (lv_at hl 1 rfl) ?_
        refine lv_aload_n hx hb dX3_allLessons_11 rfl (lv_at hl 0 rfl) ?_
        refine gf_X3_9 E hP 0 rfl rfl dX3_allLessons_12 ?_
        refine lv_iload_n hx hb dX3_allLessons_15 rfl (lv_at hl 2 rfl) ?_
        refine g_iald E hP 1 rfl i rfl (by omega) (Nat.le_of_ble_eq_true rfl) dX3_allLessons_16 ?_
        refine lv_iadd hx hb dX3_allLessons_17 ?_
        refine lv_istore_n (lv' := [(1, .int (v + (xle i))), (0, .ref a), (2, .int (nI i))]) hx hb dX3_allLessons_18 rfl hl (by decide) rfl (fun ls hl => ?_)
        refine lv_iinc (v := (nI (i + 1))) (lv' := [(2, .int (nI (i + 1))), (1, .int (v + (xle i))), (0, .ref a)]) hx hb dX3_allLessons_19 hl (k := 2) rfl (by exact ix_add rfl rfl) (by decide) rfl (fun ls hl => ?_)
        refine lv_goto (tgt := 4) hx hb dX3_allLessons_22 (by decide) ?_
        exact ih_4 (i + 1) (v + (xle i)) (by omega) (by rw [hv]; rfl) (by omega) _ _ _ hP hD hS (lv_sub hl [2, 1, 0] rfl)
  exact LOOP_4 (24 - 0 + 1) 0 0 (Nat.zero_le _) rfl (Nat.lt_succ_self _) _ _ _ hP hD hS (lv_sub hl [2, 1, 0] rfl)
abbrev rm_X3_taught : Room := { frames := 0, cells := 0, slots := 0, locals := 0 }
set_option maxHeartbeats 600000 in
set_option maxRecDepth 100000 in
theorem CX3_taught (l : Launch) (D : va_G) (g : Nat → ClassId) (sz : Nat) (a q1 q2 q3 : Nat) (xle : Nat → Int32) (xca xcl : Nat → UInt64) : Met l yX3_taught (Cond.code yX3_taught prog_5_method_9_code 3 (some .int) :: WA) rm_X3_taught (va_Pc [.ref a] (Pre D g ([(a, .inr (3, [.ref q1, .ref q2, .ref q3])), (q1, .inl (g 0, 24, .inl xle)), (q2, .inl (g 1, 24, .inr (.inr (.inr (.inl xca))))), (q3, .inl (g 1, 24, .inr (.inr (.inr (.inl xcl)))))]) sz)) (va_Qi (fun (r : Int32) (_ : Unit) => r = (cntI xle 24)) (fun (_ : Unit) t => Bp D g (va_A ([(a, .inr (3, [.ref q1, .ref q2, .ref q3])), (q1, .inl (g 0, 24, .inl xle)), (q2, .inl (g 1, 24, .inr (.inr (.inr (.inl xca))))), (q3, .inl (g 1, 24, .inr (.inr (.inr (.inl xcl)))))]) sz) ([(a, .inr (3, [.ref q1, .ref q2, .ref q3])), (q1, .inl (g 0, 24, .inl xle)), (q2, .inl (g 1, 24, .inr (.inr (.inr (.inl xca))))), (q3, .inl (g 1, 24, .inr (.inr (.inr (.inl xcl)))))]) t) (va_A ([(a, .inr (3, [.ref q1, .ref q2, .ref q3])), (q1, .inl (g 0, 24, .inl xle)), (q2, .inl (g 1, 24, .inr (.inr (.inr (.inl xca))))), (q3, .inl (g 1, 24, .inr (.inr (.inr (.inl xcl)))))]) sz)) 0 0 (va_A ([(a, .inr (3, [.ref q1, .ref q2, .ref q3])), (q1, .inl (g 0, 24, .inl xle)), (q2, .inl (g 1, 24, .inr (.inr (.inr (.inl xca))))), (q3, .inl (g 1, 24, .inr (.inr (.inr (.inl xcl)))))]) sz) := by
  refine g_met (av := [.ref a]) (QcA := fun A => va_Qi (fun (r : Int32) (_ : Unit) => r = (cntI xle 24)) (fun (_ : Unit) t => Bp D g A ([(a, .inr (3, [.ref q1, .ref q2, .ref q3])), (q1, .inl (g 0, 24, .inl xle)), (q2, .inl (g 1, 24, .inr (.inr (.inr (.inl xca))))), (q3, .inl (g 1, 24, .inr (.inr (.inr (.inl xcl)))))]) t) A) rfl (Nat.le_of_ble_eq_true rfl) ?_
  intro p e s m below meth c A Q ls E M hP hD hS hA hQ hl
  have hx := E.1.1
  have hb := E.1.2.1
  have hl : lv_has ls 3 [(0, .ref a)] := hl
  refine lv_iconst (v := 0) hx hb dX3_taught_0 (by decide) ?_
  refine lv_istore_n (lv' := [(1, .int 0), (0, .ref a)]) hx hb dX3_taught_1 rfl hl (by decide) rfl (fun ls hl => ?_)
  refine lv_iconst (v := 0) hx hb dX3_taught_2 (by decide) ?_
  refine lv_istore_n (lv' := [(2, .int 0), (1, .int 0), (0, .ref a)]) hx hb dX3_taught_3 rfl hl (by decide) rfl (fun ls hl => ?_)
  have LOOP_4 : ∀ (fu_4 : Nat) (i : Nat) (v : Int32) (hi : i ≤ 24) (hv : v = cntI xle i) (hf_4 : 24 - i < fu_4) (H : Heap) (locs : List Loc) (ls : Array Slot), va_P D vwCl ([(a, .inr (3, [.ref q1, .ref q2, .ref q3])), (q1, .inl (g 0, 24, .inl xle)), (q2, .inl (g 1, 24, .inr (.inr (.inr (.inl xca))))), (q3, .inl (g 1, 24, .inr (.inr (.inr (.inl xcl)))))]) H → va_D A ([(a, .inr (3, [.ref q1, .ref q2, .ref q3])), (q1, .inl (g 0, 24, .inl xle)), (q2, .inl (g 1, 24, .inr (.inr (.inr (.inl xca))))), (q3, .inl (g 1, 24, .inr (.inr (.inr (.inl xcl)))))]) → va_S A s.heap H locs → lv_has ls 3 [(0, .ref a), (1, .int v), (2, .int (nI i))] → W p l e rm_X3_taught s m ([.ref a] : List Value).toArray below meth c H locs 0 0 Q (F0 m 4 ls []) := by
    intro fu_4
    induction fu_4 with
    | zero => intro i v hi hv hf_4; exact absurd hf_4 (Nat.not_lt_zero _)
    | succ fu_4 ih_4 =>
      intro i v hi hv hf_4 H locs ls hP hD hS hl
      refine lv_iload_n hx hb dX3_taught_4 rfl (lv_at hl 2 rfl) ?_
      refine lv_bipush (v := 24) hx hb dX3_taught_5 (by decide) ?_
      refine lv_icmp_ge (tgt := 28) hx hb dX3_taught_7 (by decide) (fun c_7 => ?_) (fun c_7 => ?_)
      · skip
        refine lv_iload_n hx hb dX3_taught_28 rfl (lv_at hl 1 rfl) ?_
        have hL : (v : Int32) = (cntI xle 24) := by rw [hv]; congr 1; have : 24 ≤ i := nI_le_of c_7 (by decide) (by omega); omega
        exact g_iret hQ E M rfl hS hP hD () rfl (hL) dX3_taught_29
      · skip
        have hlt : i < 24 := nI_nle_of c_7 (by decide) (by omega)
        refine lv_aload_n hx hb dX3_taught_10 rfl (lv_at hl 0 rfl) ?_
        refine gf_X3_9 E hP 0 rfl rfl dX3_taught_11 ?_
        refine lv_iload_n hx hb dX3_taught_14 rfl (lv_at hl 2 rfl) ?_
        refine g_iald E hP 1 rfl i rfl (by omega) (Nat.le_of_ble_eq_true rfl) dX3_taught_15 ?_
        refine lv_if_le (tgt := 22) hx hb dX3_taught_16 (by decide) (fun c_16 => ?_) (fun c_16 => ?_)
        · skip
          refine lv_iinc (v := (nI (i + 1))) (lv' := [(2, .int (nI (i + 1))), (0, .ref a), (1, .int v)]) hx hb dX3_taught_22 hl (k := 2) rfl (by exact ix_add rfl rfl) (by decide) rfl (fun ls hl => ?_)
          refine lv_goto (tgt := 4) hx hb dX3_taught_25 (by decide) ?_
          exact ih_4 (i + 1) v (by omega) (by rw [hv]; simp only [cntI, if_pos c_16]) (by omega) _ _ _ hP hD hS (lv_sub hl [1, 2, 0] rfl)
        · skip
          refine lv_iinc (v := (v + 1)) (lv' := [(1, .int (v + 1)), (0, .ref a), (2, .int (nI i))]) hx hb dX3_taught_19 hl (k := 1) rfl rfl (by decide) rfl (fun ls hl => ?_)
          refine lv_iinc (v := (nI (i + 1))) (lv' := [(2, .int (nI (i + 1))), (1, .int (v + 1)), (0, .ref a)]) hx hb dX3_taught_22 hl (k := 2) rfl (by exact ix_add rfl rfl) (by decide) rfl (fun ls hl => ?_)
          refine lv_goto (tgt := 4) hx hb dX3_taught_25 (by decide) ?_
          exact ih_4 (i + 1) (v + 1) (by omega) (by rw [hv]; simp only [cntI, if_neg c_16]) (by omega) _ _ _ hP hD hS (lv_sub hl [2, 1, 0] rfl)
  exact LOOP_4 (24 - 0 + 1) 0 0 (Nat.zero_le _) rfl (Nat.lt_succ_self _) _ _ _ hP hD hS (lv_sub hl [2, 1, 0] rfl)
