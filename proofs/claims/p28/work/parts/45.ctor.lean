abbrev rm_X0_init : Room := { frames := 1, cells := 0, slots := 0, locals := 23 }
set_option maxHeartbeats 600000 in
set_option maxRecDepth 100000 in
theorem CX0_init (l : Launch) (D : va_G) (g : Nat → ClassId) (sz : Nat) (b : Nat) (xs xd xr xz xh xl : Int32) (xha xhh xma xmh : UInt64) : Met l yX0_init (Cond.code yX0_init prog_2_method_1_code 1 none :: WA) rm_X0_init (va_Pc [.ref b] (Pre D g ([(b, .inr (0, [.int xs, .int xd, .int xr, .int xz, .int xh, .double xha, .double xhh, .double xma, .double xmh, .int xl]))]) sz)) (va_Qv (fun (_ : Unit) => True) (fun (_ : Unit) t => Bp D g (va_A ([(b, .inr (0, [.int xs, .int xd, .int xr, .int xz, .int xh, .double xha, .double xhh, .double xma, .double xmh, .int xl]))]) sz) ([(b, .inr (0, [.int (-1), .int 0, .int 0, .int 0, .int 0, .double FP.dconst0, .double FP.dconst0, .double FP.dconst0, .double FP.dconst0, .int 0]))]) t) (va_A ([(b, .inr (0, [.int xs, .int xd, .int xr, .int xz, .int xh, .double xha, .double xhh, .double xma, .double xmh, .int xl]))]) sz)) 0 0 (va_A ([(b, .inr (0, [.int xs, .int xd, .int xr, .int xz, .int xh, .double xha, .double xhh, .double xma, .double xmh, .int xl]))]) sz) := by
  refine g_met (av := [.ref b]) (QcA := fun A => va_Qv (fun (_ : Unit) => True) (fun (_ : Unit) t => Bp D g A ([(b, .inr (0, [.int (-1), .int 0, .int 0, .int 0, .int 0, .double FP.dconst0, .double FP.dconst0, .double FP.dconst0, .double FP.dconst0, .int 0]))]) t) A) rfl (Nat.le_of_ble_eq_true rfl) ?_
  intro p e s m below meth c A Q ls E M hP hD hS hA hQ hl
  have hx := E.1.1
  have hb := E.1.2.1
  have hl : lv_has ls 1 [(0, .ref b)] := hl
  refine lv_aload_n hx hb dX0_init_0 rfl (lv_at hl 0 rfl) ?_
  refine go_X0_3 E hl.1.symm (Nat.le_of_ble_eq_true rfl) (Nat.le_of_ble_eq_true rfl) dX0_init_1 ?_
  refine lv_aload_n hx hb dX0_init_4 rfl (lv_at hl 0 rfl) ?_
  refine lv_iconst (v := (-1)) hx hb dX0_init_5 (by decide) ?_
  refine gp_X0_9 E hP hD hS 0 rfl rfl rfl (Nat.le_of_ble_eq_true rfl) dX0_init_6 (fun H locs hP hD hS => ?_)
  have hP : va_P D vwCl ([(b, .inr (0, [.int (-1), .int xd, .int xr, .int xz, .int xh, .double xha, .double xhh, .double xma, .double xmh, .int xl]))]) H := hP
  have hD : va_D A ([(b, .inr (0, [.int (-1), .int xd, .int xr, .int xz, .int xh, .double xha, .double xhh, .double xma, .double xmh, .int xl]))]) := hD
  refine lv_aload_n hx hb dX0_init_9 rfl (lv_at hl 0 rfl) ?_
  refine lv_iconst (v := 0) hx hb dX0_init_10 (by decide) ?_
  refine gp_X0_15 E hP hD hS 0 rfl rfl rfl (Nat.le_of_ble_eq_true rfl) dX0_init_11 (fun H locs hP hD hS => ?_)
  have hP : va_P D vwCl ([(b, .inr (0, [.int (-1), .int 0, .int xr, .int xz, .int xh, .double xha, .double xhh, .double xma, .double xmh, .int xl]))]) H := hP
  have hD : va_D A ([(b, .inr (0, [.int (-1), .int 0, .int xr, .int xz, .int xh, .double xha, .double xhh, .double xma, .double xmh, .int xl]))]) := hD
  refine lv_aload_n hx hb dX0_init_14 rfl (lv_at hl 0 rfl) ?_
  refine lv_iconst (v := 0) hx hb dX0_init_15 (by decide) ?_
  refine gp_X0_18 E hP hD hS 0 rfl rfl rfl (Nat.le_of_ble_eq_true rfl) dX0_init_16 (fun H locs hP hD hS => ?_)
  have hP : va_P D vwCl ([(b, .inr (0, [.int (-1), .int 0, .int 0, .int xz, .int xh, .double xha, .double xhh, .double xma, .double xmh, .int xl]))]) H := hP
  have hD : va_D A ([(b, .inr (0, [.int (-1), .int 0, .int 0, .int xz, .int xh, .double xha, .double xhh, .double xma, .double xmh, .int xl]))]) := hD
  refine lv_aload_n hx hb dX0_init_19 rfl (lv_at hl 0 rfl) ?_
  refine lv_iconst (v := 0) hx hb dX0_init_20 (by decide) ?_
  refine gp_X0_21 E hP hD hS 0 rfl rfl rfl (Nat.le_of_ble_eq_true rfl) dX0_init_21 (fun H locs hP hD hS => ?_)
  have hP : va_P D vwCl ([(b, .inr (0, [.int (-1), .int 0, .int 0, .int 0, .int xh, .double xha, .double xhh, .double xma, .double xmh, .int xl]))]) H := hP
  have hD : va_D A ([(b, .inr (0, [.int (-1), .int 0, .int 0, .int 0, .int xh, .double xha, .double xhh, .double xma, .double xmh, .int xl]))]) := hD
  refine lv_aload_n hx hb dX0_init_24 rfl (lv_at hl 0 rfl) ?_
  refine lv_iconst (v := 0) hx hb dX0_init_25 (by decide) ?_
  refine gp_X0_24 E hP hD hS 0 rfl rfl rfl (Nat.le_of_ble_eq_true rfl) dX0_init_26 (fun H locs hP hD hS => ?_)
  have hP : va_P D vwCl ([(b, .inr (0, [.int (-1), .int 0, .int 0, .int 0, .int 0, .double xha, .double xhh, .double xma, .double xmh, .int xl]))]) H := hP
  have hD : va_D A ([(b, .inr (0, [.int (-1), .int 0, .int 0, .int 0, .int 0, .double xha, .double xhh, .double xma, .double xmh, .int xl]))]) := hD
  refine lv_aload_n hx hb dX0_init_29 rfl (lv_at hl 0 rfl) ?_
  refine lv_dconst0 hx hb dX0_init_30 ?_
  refine gp_X0_27 E hP hD hS 0 rfl rfl rfl (Nat.le_of_ble_eq_true rfl) dX0_init_31 (fun H locs hP hD hS => ?_)
  have hP : va_P D vwCl ([(b, .inr (0, [.int (-1), .int 0, .int 0, .int 0, .int 0, .double FP.dconst0, .double xhh, .double xma, .double xmh, .int xl]))]) H := hP
  have hD : va_D A ([(b, .inr (0, [.int (-1), .int 0, .int 0, .int 0, .int 0, .double FP.dconst0, .double xhh, .double xma, .double xmh, .int xl]))]) := hD
  refine lv_aload_n hx hb dX0_init_34 rfl (lv_at hl 0 rfl) ?_
  refine lv_dconst0 hx hb dX0_init_35 ?_
  refine gp_X0_31 E hP hD hS 0 rfl rfl rfl (Nat.le_of_ble_eq_true rfl) dX0_init_36 (fun H locs hP hD hS => ?_)
  have hP : va_P D vwCl ([(b, .inr (0, [.int (-1), .int 0, .int 0, .int 0, .int 0, .double FP.dconst0, .double FP.dconst0, .double xma, .double xmh, .int xl]))]) H := hP
  have hD : va_D A ([(b, .inr (0, [.int (-1), .int 0, .int 0, .int 0, .int 0, .double FP.dconst0, .double FP.dconst0, .double xma, .double xmh, .int xl]))]) := hD
  refine lv_aload_n hx hb dX0_init_39 rfl (lv_at hl 0 rfl) ?_
  refine lv_dconst0 hx hb dX0_init_40 ?_
  refine gp_X0_34 E hP hD hS 0 rfl rfl rfl (Nat.le_of_ble_eq_true rfl) dX0_init_41 (fun H locs hP hD hS => ?_)
  have hP : va_P D vwCl ([(b, .inr (0, [.int (-1), .int 0, .int 0, .int 0, .int 0, .double FP.dconst0, .double FP.dconst0, .double FP.dconst0, .double xmh, .int xl]))]) H := hP
  have hD : va_D A ([(b, .inr (0, [.int (-1), .int 0, .int 0, .int 0, .int 0, .double FP.dconst0, .double FP.dconst0, .double FP.dconst0, .double xmh, .int xl]))]) := hD
  refine lv_aload_n hx hb dX0_init_44 rfl (lv_at hl 0 rfl) ?_
  refine lv_dconst0 hx hb dX0_init_45 ?_
  refine gp_X0_37 E hP hD hS 0 rfl rfl rfl (Nat.le_of_ble_eq_true rfl) dX0_init_46 (fun H locs hP hD hS => ?_)
  have hP : va_P D vwCl ([(b, .inr (0, [.int (-1), .int 0, .int 0, .int 0, .int 0, .double FP.dconst0, .double FP.dconst0, .double FP.dconst0, .double FP.dconst0, .int xl]))]) H := hP
  have hD : va_D A ([(b, .inr (0, [.int (-1), .int 0, .int 0, .int 0, .int 0, .double FP.dconst0, .double FP.dconst0, .double FP.dconst0, .double FP.dconst0, .int xl]))]) := hD
  refine lv_aload_n hx hb dX0_init_49 rfl (lv_at hl 0 rfl) ?_
  refine lv_iconst (v := 0) hx hb dX0_init_50 (by decide) ?_
  refine gp_X0_40 E hP hD hS 0 rfl rfl rfl (Nat.le_of_ble_eq_true rfl) dX0_init_51 (fun H locs hP hD hS => ?_)
  have hP : va_P D vwCl ([(b, .inr (0, [.int (-1), .int 0, .int 0, .int 0, .int 0, .double FP.dconst0, .double FP.dconst0, .double FP.dconst0, .double FP.dconst0, .int 0]))]) H := hP
  have hD : va_D A ([(b, .inr (0, [.int (-1), .int 0, .int 0, .int 0, .int 0, .double FP.dconst0, .double FP.dconst0, .double FP.dconst0, .double FP.dconst0, .int 0]))]) := hD
  exact g_vret hQ E M rfl hS hP hD () rfl (trivial) dX0_init_54
abbrev rm_X1_init : Room := { frames := 1, cells := 0, slots := 0, locals := 23 }
set_option maxHeartbeats 600000 in
set_option maxRecDepth 100000 in
theorem CX1_init (l : Launch) (D : va_G) (g : Nat → ClassId) (sz : Nat) (b : Nat) (v1 v2 v3 : Int32) : Met l yX1_init (Cond.code yX1_init prog_3_method_1_code 1 none :: WA) rm_X1_init (va_Pc [.ref b] (Pre D g ([(b, .inr (1, [.int v1, .int v2, .int v3]))]) sz)) (va_Qv (fun (_ : Unit) => True) (fun (_ : Unit) t => Bp D g (va_A ([(b, .inr (1, [.int v1, .int v2, .int v3]))]) sz) ([(b, .inr (1, [.int 0, .int 2700, .int 0]))]) t) (va_A ([(b, .inr (1, [.int v1, .int v2, .int v3]))]) sz)) 0 0 (va_A ([(b, .inr (1, [.int v1, .int v2, .int v3]))]) sz) := by
  refine g_met (av := [.ref b]) (QcA := fun A => va_Qv (fun (_ : Unit) => True) (fun (_ : Unit) t => Bp D g A ([(b, .inr (1, [.int 0, .int 2700, .int 0]))]) t) A) rfl (Nat.le_of_ble_eq_true rfl) ?_
  intro p e s m below meth c A Q ls E M hP hD hS hA hQ hl
  have hx := E.1.1
  have hb := E.1.2.1
  have hl : lv_has ls 1 [(0, .ref b)] := hl
  refine lv_aload_n hx hb dX1_init_0 rfl (lv_at hl 0 rfl) ?_
  refine go_X1_3 E hl.1.symm (Nat.le_of_ble_eq_true rfl) (Nat.le_of_ble_eq_true rfl) dX1_init_1 ?_
  refine lv_aload_n hx hb dX1_init_4 rfl (lv_at hl 0 rfl) ?_
  refine lv_iconst (v := 0) hx hb dX1_init_5 (by decide) ?_
  refine gp_X1_9 E hP hD hS 0 rfl rfl rfl (Nat.le_of_ble_eq_true rfl) dX1_init_6 (fun H locs hP hD hS => ?_)
  have hP : va_P D vwCl ([(b, .inr (1, [.int 0, .int v2, .int v3]))]) H := hP
  have hD : va_D A ([(b, .inr (1, [.int 0, .int v2, .int v3]))]) := hD
  refine lv_aload_n hx hb dX1_init_9 rfl (lv_at hl 0 rfl) ?_
  refine lv_sipush (v := 2700) hx hb dX1_init_10 (by decide) ?_
  refine gp_X1_15 E hP hD hS 0 rfl rfl rfl (Nat.le_of_ble_eq_true rfl) dX1_init_13 (fun H locs hP hD hS => ?_)
  have hP : va_P D vwCl ([(b, .inr (1, [.int 0, .int 2700, .int v3]))]) H := hP
  have hD : va_D A ([(b, .inr (1, [.int 0, .int 2700, .int v3]))]) := hD
  refine lv_aload_n hx hb dX1_init_16 rfl (lv_at hl 0 rfl) ?_
  refine lv_iconst (v := 0) hx hb dX1_init_17 (by decide) ?_
  refine gp_X1_18 E hP hD hS 0 rfl rfl rfl (Nat.le_of_ble_eq_true rfl) dX1_init_18 (fun H locs hP hD hS => ?_)
  have hP : va_P D vwCl ([(b, .inr (1, [.int 0, .int 2700, .int 0]))]) H := hP
  have hD : va_D A ([(b, .inr (1, [.int 0, .int 2700, .int 0]))]) := hD
  exact g_vret hQ E M rfl hS hP hD () rfl (trivial) dX1_init_21
