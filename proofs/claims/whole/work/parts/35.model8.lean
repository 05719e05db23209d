abbrev rm_X8_readOrder : Room := { frames := 4, cells := 0, slots := 0, locals := 87 }
set_option maxHeartbeats 2000000 in
set_option maxRecDepth 100000 in
theorem CX8_readOrder (l : Launch) (D : va_G) (g : Nat → ClassId) (sz : Nat) (q : Nat → Nat) (pp : Nat → Int32) (dd : Nat → UInt64) (pa : Nat → Int32) (da : Nat → UInt64) (ps : Nat → Int32) (ds : Nat → UInt64) (tx rw mb : Nat → Int32) (st th co tt hh : Int32) (ma mh : UInt64) (le nu ot di wh sd : Int32) (ha : Int64) (a L : Nat) (hL : L ≤ 100) (hlt : a < L) : Met l yX8_readOrder (Cond.code yX8_readOrder prog_10_method_68_code 2 (some .boolean) :: WA) rm_X8_readOrder (va_Pc [.ref (q 0)] (Pre D g ([((q 0), .inr (8, [.ref (q 1), .ref (q 2), .ref (q 3), .ref (q 4), .ref (q 5), .ref (q 6), .int st, .ref (q 7), .int (nI L), .int th, .int co, .int tt, .int hh, .double ma, .double mh, .ref (q 8), .ref (q 9), .int (nI a), .int le, .int nu, .int ot, .int di, .int wh, .int sd, .long ha])), ((q 1), .inl (g 0, 127, .inl pp)), ((q 2), .inl (g 1, 52, .inr (.inr (.inr (.inl dd))))), ((q 3), .inl (g 0, 127, .inl pa)), ((q 4), .inl (g 1, 52, .inr (.inr (.inr (.inl da))))), ((q 5), .inl (g 0, 508, .inl ps)), ((q 6), .inl (g 1, 208, .inr (.inr (.inr (.inl ds))))), ((q 7), .inl (g 0, 100, .inl tx)), ((q 8), .inl (g 0, 5, .inl rw)), ((q 9), .inl (g 0, 5, .inl mb))]) sz)) (va_Qi (fun (r : Int32) (u : (Nat × Int32 × Int32 × Int32 × Int32 × Int32 × Int32)) => match u with | (a9, l9, v9, o9, s9, w9, d9) => (r = 1 ∧ ((roF tx L a).2.1 = none ∧ a9 = (roF tx L a).1 ∧ l9 = tx a ∧ roM tx L a o9 v9 s9 w9)) ∨ (r = 0 ∧ ((roF tx L a).2.1 = some a9))) (fun (u : (Nat × Int32 × Int32 × Int32 × Int32 × Int32 × Int32)) t => Bp D g (va_A ([((q 0), .inr (8, [.ref (q 1), .ref (q 2), .ref (q 3), .ref (q 4), .ref (q 5), .ref (q 6), .int st, .ref (q 7), .int (nI L), .int th, .int co, .int tt, .int hh, .double ma, .double mh, .ref (q 8), .ref (q 9), .int (nI a), .int le, .int nu, .int ot, .int di, .int wh, .int sd, .long ha])), ((q 1), .inl (g 0, 127, .inl pp)), ((q 2), .inl (g 1, 52, .inr (.inr (.inr (.inl dd))))), ((q 3), .inl (g 0, 127, .inl pa)), ((q 4), .inl (g 1, 52, .inr (.inr (.inr (.inl da))))), ((q 5), .inl (g 0, 508, .inl ps)), ((q 6), .inl (g 1, 208, .inr (.inr (.inr (.inl ds))))), ((q 7), .inl (g 0, 100, .inl tx)), ((q 8), .inl (g 0, 5, .inl rw)), ((q 9), .inl (g 0, 5, .inl mb))]) sz) (match u with | (a9, l9, v9, o9, s9, w9, d9) => [((q 0), .inr (8, [.ref (q 1), .ref (q 2), .ref (q 3), .ref (q 4), .ref (q 5), .ref (q 6), .int st, .ref (q 7), .int (nI L), .int th, .int co, .int tt, .int hh, .double ma, .double mh, .ref (q 8), .ref (q 9), .int (nI a9), .int l9, .int v9, .int o9, .int d9, .int w9, .int s9, .long ha])), ((q 1), .inl (g 0, 127, .inl pp)), ((q 2), .inl (g 1, 52, .inr (.inr (.inr (.inl dd))))), ((q 3), .inl (g 0, 127, .inl pa)), ((q 4), .inl (g 1, 52, .inr (.inr (.inr (.inl da))))), ((q 5), .inl (g 0, 508, .inl ps)), ((q 6), .inl (g 1, 208, .inr (.inr (.inr (.inl ds))))), ((q 7), .inl (g 0, 100, .inl tx)), ((q 8), .inl (g 0, 5, .inl rw)), ((q 9), .inl (g 0, 5, .inl mb))]) t) (va_A ([((q 0), .inr (8, [.ref (q 1), .ref (q 2), .ref (q 3), .ref (q 4), .ref (q 5), .ref (q 6), .int st, .ref (q 7), .int (nI L), .int th, .int co, .int tt, .int hh, .double ma, .double mh, .ref (q 8), .ref (q 9), .int (nI a), .int le, .int nu, .int ot, .int di, .int wh, .int sd, .long ha])), ((q 1), .inl (g 0, 127, .inl pp)), ((q 2), .inl (g 1, 52, .inr (.inr (.inr (.inl dd))))), ((q 3), .inl (g 0, 127, .inl pa)), ((q 4), .inl (g 1, 52, .inr (.inr (.inr (.inl da))))), ((q 5), .inl (g 0, 508, .inl ps)), ((q 6), .inl (g 1, 208, .inr (.inr (.inr (.inl ds))))), ((q 7), .inl (g 0, 100, .inl tx)), ((q 8), .inl (g 0, 5, .inl rw)), ((q 9), .inl (g 0, 5, .inl mb))]) sz)) 0 0 (va_A ([((q 0), .inr (8, [.ref (q 1), .ref (q 2), .ref (q 3), .ref (q 4), .ref (q 5), .ref (q 6), .int st, .ref (q 7), .int (nI L), .int th, .int co, .int tt, .int hh, .double ma, .double mh, .ref (q 8), .ref (q 9), .int (nI a), .int le, .int nu, .int ot, .int di, .int wh, .int sd, .long ha])), ((q 1), .inl (g 0, 127, .inl pp)), ((q 2), .inl (g 1, 52, .inr (.inr (.inr (.inl dd))))), ((q 3), .inl (g 0, 127, .inl pa)), ((q 4), .inl (g 1, 52, .inr (.inr (.inr (.inl da))))), ((q 5), .inl (g 0, 508, .inl ps)), ((q 6), .inl (g 1, 208, .inr (.inr (.inr (.inl ds))))), ((q 7), .inl (g 0, 100, .inl tx)), ((q 8), .inl (g 0, 5, .inl rw)), ((q 9), .inl (g 0, 5, .inl mb))]) sz) := by
  refine g_met (av := [.ref (q 0)]) (QcA := fun A => va_Qi (fun (r : Int32) (u : (Nat × Int32 × Int32 × Int32 × Int32 × Int32 × Int32)) => match u with | (a9, l9, v9, o9, s9, w9, d9) => (r = 1 ∧ ((roF tx L a).2.1 = none ∧ a9 = (roF tx L a).1 ∧ l9 = tx a ∧ roM tx L a o9 v9 s9 w9)) ∨ (r = 0 ∧ ((roF tx L a).2.1 = some a9))) (fun (u : (Nat × Int32 × Int32 × Int32 × Int32 × Int32 × Int32)) t => Bp D g A (match u with | (a9, l9, v9, o9, s9, w9, d9) => [((q 0), .inr (8, [.ref (q 1), .ref (q 2), .ref (q 3), .ref (q 4), .ref (q 5), .ref (q 6), .int st, .ref (q 7), .int (nI L), .int th, .int co, .int tt, .int hh, .double ma, .double mh, .ref (q 8), .ref (q 9), .int (nI a9), .int l9, .int v9, .int o9, .int d9, .int w9, .int s9, .long ha])), ((q 1), .inl (g 0, 127, .inl pp)), ((q 2), .inl (g 1, 52, .inr (.inr (.inr (.inl dd))))), ((q 3), .inl (g 0, 127, .inl pa)), ((q 4), .inl (g 1, 52, .inr (.inr (.inr (.inl da))))), ((q 5), .inl (g 0, 508, .inl ps)), ((q 6), .inl (g 1, 208, .inr (.inr (.inr (.inl ds))))), ((q 7), .inl (g 0, 100, .inl tx)), ((q 8), .inl (g 0, 5, .inl rw)), ((q 9), .inl (g 0, 5, .inl mb))]) t) A) rfl (Nat.le_of_ble_eq_true rfl) ?_
  intro p e s m below meth c A Q ls E M hP hD hS hA hQ hl
  have hx := E.1.1
  have hb := E.1.2.1
  have hl : lv_has ls 2 [(0, .ref (q 0))] := hl
  refine lv_aload_n hx hb dX8_readOrder_0 rfl (lv_at hl 0 rfl) ?_
  refine lv_aload_n hx hb dX8_readOrder_1 rfl (lv_at hl 0 rfl) ?_
  refine cl_X8_198 (As := []) (rest := [.ref (q 0)]) (b := (q 0)) (wc := [((q 0), .inr (8, [.ref (q 1), .ref (q 2), .ref (q 3), .ref (q 4), .ref (q 5), .ref (q 6), .int st, .ref (q 7), .int (nI L), .int th, .int co, .int tt, .int hh, .double ma, .double mh, .ref (q 8), .ref (q 9), .int (nI a), .int le, .int nu, .int ot, .int di, .int wh, .int sd, .long ha])), ((q 1), .inl (g 0, 127, .inl pp)), ((q 2), .inl (g 1, 52, .inr (.inr (.inr (.inl dd))))), ((q 3), .inl (g 0, 127, .inl pa)), ((q 4), .inl (g 1, 52, .inr (.inr (.inr (.inl da))))), ((q 5), .inl (g 0, 508, .inl ps)), ((q 6), .inl (g 1, 208, .inr (.inr (.inr (.inl ds))))), ((q 7), .inl (g 0, 100, .inl tx)), ((q 8), .inl (g 0, 5, .inl rw)), ((q 9), .inl (g 0, 5, .inl mb))]) (wr := []) (wn := (fun _ => [((q 0), .inr (8, [.ref (q 1), .ref (q 2), .ref (q 3), .ref (q 4), .ref (q 5), .ref (q 6), .int st, .ref (q 7), .int (nI L), .int th, .int co, .int tt, .int hh, .double ma, .double mh, .ref (q 8), .ref (q 9), .int (nI a), .int le, .int nu, .int ot, .int di, .int wh, .int sd, .long ha])), ((q 1), .inl (g 0, 127, .inl pp)), ((q 2), .inl (g 1, 52, .inr (.inr (.inr (.inl dd))))), ((q 3), .inl (g 0, 127, .inl pa)), ((q 4), .inl (g 1, 52, .inr (.inr (.inr (.inl da))))), ((q 5), .inl (g 0, 508, .inl ps)), ((q 6), .inl (g 1, 208, .inr (.inr (.inr (.inl ds))))), ((q 7), .inl (g 0, 100, .inl tx)), ((q 8), .inl (g 0, 5, .inl rw)), ((q 9), .inl (g 0, 5, .inl mb))])) (isC := [0, 1, 2, 3, 4, 5, 6, 7, 8, 9]) (isR := []) (isP := [0, 1, 2, 3, 4, 5, 6, 7, 8, 9]) E hS hA hP hD ⟨rfl, rfl, rfl, rfl, by decide, fun _ => rfl, rfl⟩ (CX8_here l D g _ q pp dd pa da ps ds tx rw mb st th co tt hh ma mh le nu ot di wh sd ha a L (by first | assumption | omega) (by omega)) ⟨Nat.le_of_ble_eq_true rfl, Nat.le_of_ble_eq_true rfl⟩ rfl rfl 0 rfl rfl hl.1 rfl (Nat.le_of_ble_eq_true rfl) ⟨Nat.le_of_ble_eq_true rfl, Nat.le_of_ble_eq_true rfl⟩ dX8_readOrder_2 (fun r u H locs hw hP hD hS => ?_)
  have hP : va_P D vwCl ([((q 0), .inr (8, [.ref (q 1), .ref (q 2), .ref (q 3), .ref (q 4), .ref (q 5), .ref (q 6), .int st, .ref (q 7), .int (nI L), .int th, .int co, .int tt, .int hh, .double ma, .double mh, .ref (q 8), .ref (q 9), .int (nI a), .int le, .int nu, .int ot, .int di, .int wh, .int sd, .long ha])), ((q 1), .inl (g 0, 127, .inl pp)), ((q 2), .inl (g 1, 52, .inr (.inr (.inr (.inl dd))))), ((q 3), .inl (g 0, 127, .inl pa)), ((q 4), .inl (g 1, 52, .inr (.inr (.inr (.inl da))))), ((q 5), .inl (g 0, 508, .inl ps)), ((q 6), .inl (g 1, 208, .inr (.inr (.inr (.inl ds))))), ((q 7), .inl (g 0, 100, .inl tx)), ((q 8), .inl (g 0, 5, .inl rw)), ((q 9), .inl (g 0, 5, .inl mb))]) H := hP
  have hD : va_D A ([((q 0), .inr (8, [.ref (q 1), .ref (q 2), .ref (q 3), .ref (q 4), .ref (q 5), .ref (q 6), .int st, .ref (q 7), .int (nI L), .int th, .int co, .int tt, .int hh, .double ma, .double mh, .ref (q 8), .ref (q 9), .int (nI a), .int le, .int nu, .int ot, .int di, .int wh, .int sd, .long ha])), ((q 1), .inl (g 0, 127, .inl pp)), ((q 2), .inl (g 1, 52, .inr (.inr (.inr (.inl dd))))), ((q 3), .inl (g 0, 127, .inl pa)), ((q 4), .inl (g 1, 52, .inr (.inr (.inr (.inl da))))), ((q 5), .inl (g 0, 508, .inl ps)), ((q 6), .inl (g 1, 208, .inr (.inr (.inr (.inl ds))))), ((q 7), .inl (g 0, 100, .inl tx)), ((q 8), .inl (g 0, 5, .inl rw)), ((q 9), .inl (g 0, 5, .inl mb))]) := hD
  subst hw
  refine g_top (w := .int (tx a)) (congrArg Value.int (hrT_in hlt)) ?_
  refine gp_X8_228 E hP hD hS 0 rfl rfl rfl (Nat.le_of_ble_eq_true rfl) dX8_readOrder_5 (fun H locs hP hD hS => ?_)
  have hP : va_P D vwCl ([((q 0), .inr (8, [.ref (q 1), .ref (q 2), .ref (q 3), .ref (q 4), .ref (q 5), .ref (q 6), .int st, .ref (q 7), .int (nI L), .int th, .int co, .int tt, .int hh, .double ma, .double mh, .ref (q 8), .ref (q 9), .int (nI a), .int (tx a), .int nu, .int ot, .int di, .int wh, .int sd, .long ha])), ((q 1), .inl (g 0, 127, .inl pp)), ((q 2), .inl (g 1, 52, .inr (.inr (.inr (.inl dd))))), ((q 3), .inl (g 0, 127, .inl pa)), ((q 4), .inl (g 1, 52, .inr (.inr (.inr (.inl da))))), ((q 5), .inl (g 0, 508, .inl ps)), ((q 6), .inl (g 1, 208, .inr (.inr (.inr (.inl ds))))), ((q 7), .inl (g 0, 100, .inl tx)), ((q 8), .inl (g 0, 5, .inl rw)), ((q 9), .inl (g 0, 5, .inl mb))]) H := hP
  have hD : va_D A ([((q 0), .inr (8, [.ref (q 1), .ref (q 2), .ref (q 3), .ref (q 4), .ref (q 5), .ref (q 6), .int st, .ref (q 7), .int (nI L), .int th, .int co, .int tt, .int hh, .double ma, .double mh, .ref (q 8), .ref (q 9), .int (nI a), .int (tx a), .int nu, .int ot, .int di, .int wh, .int sd, .long ha])), ((q 1), .inl (g 0, 127, .inl pp)), ((q 2), .inl (g 1, 52, .inr (.inr (.inr (.inl dd))))), ((q 3), .inl (g 0, 127, .inl pa)), ((q 4), .inl (g 1, 52, .inr (.inr (.inr (.inl da))))), ((q 5), .inl (g 0, 508, .inl ps)), ((q 6), .inl (g 1, 208, .inr (.inr (.inr (.inl ds))))), ((q 7), .inl (g 0, 100, .inl tx)), ((q 8), .inl (g 0, 5, .inl rw)), ((q 9), .inl (g 0, 5, .inl mb))]) := hD
  refine lv_aload_n hx hb dX8_readOrder_8 rfl (lv_at hl 0 rfl) ?_
  refine gf_X8_228 E hP 0 rfl rfl dX8_readOrder_9 ?_
  refine lv_bipush (v := 115) hx hb dX8_readOrder_12 (by decide) ?_
  refine lv_icmp_eq (tgt := 44) hx hb dX8_readOrder_14 (by decide) (fun c_14 => ?_) (fun c_14 => ?_)
  · skip
    refine lv_iconst (v := 1) hx hb dX8_readOrder_44 (by decide) ?_
    refine lv_goto (tgt := 49) hx hb dX8_readOrder_45 (by decide) ?_
    refine lv_istore_n (lv' := [(1, .int 1), (0, .ref (q 0))]) hx hb dX8_readOrder_49 rfl hl (by decide) rfl (fun ls hl => ?_)
    refine lv_aload_n hx hb dX8_readOrder_50 rfl (lv_at hl 1 rfl) ?_
    refine lv_dup hx hb dX8_readOrder_51 rfl ?_
    refine gf_X8_195 E hP 0 rfl rfl dX8_readOrder_52 ?_
    refine lv_iload_n hx hb dX8_readOrder_55 rfl (lv_at hl 0 rfl) ?_
    refine lv_if_eq (tgt := 63) hx hb dX8_readOrder_56 (by decide) (fun c_56 => ?_) (fun c_56 => ?_)
    · exact absurd c_56 (by decide)
    · skip
      refine lv_iconst (v := 1) hx hb dX8_readOrder_59 (by decide) ?_
      refine lv_goto (tgt := 64) hx hb dX8_readOrder_60 (by decide) ?_
      refine lv_iadd hx hb dX8_readOrder_64 ?_
      refine g_top (w := .int (nI (a + 1))) (congrArg Value.int (ix_add rfl rfl)) ?_
      refine gp_X8_195 E hP hD hS 0 rfl rfl rfl (Nat.le_of_ble_eq_true rfl) dX8_readOrder_65 (fun H locs hP hD hS => ?_)
      have hP : va_P D vwCl ([((q 0), .inr (8, [.ref (q 1), .ref (q 2), .ref (q 3), .ref (q 4), .ref (q 5), .ref (q 6), .int st, .ref (q 7), .int (nI L), .int th, .int co, .int tt, .int hh, .double ma, .double mh, .ref (q 8), .ref (q 9), .int (nI (a + 1)), .int (tx a), .int nu, .int ot, .int di, .int wh, .int sd, .long ha])), ((q 1), .inl (g 0, 127, .inl pp)), ((q 2), .inl (g 1, 52, .inr (.inr (.inr (.inl dd))))), ((q 3), .inl (g 0, 127, .inl pa)), ((q 4), .inl (g 1, 52, .inr (.inr (.inr (.inl da))))), ((q 5), .inl (g 0, 508, .inl ps)), ((q 6), .inl (g 1, 208, .inr (.inr (.inr (.inl ds))))), ((q 7), .inl (g 0, 100, .inl tx)), ((q 8), .inl (g 0, 5, .inl rw)), ((q 9), .inl (g 0, 5, .inl mb))]) H := hP
      have hD : va_D A ([((q 0), .inr (8, [.ref (q 1), .ref (q 2), .ref (q 3), .ref (q 4), .ref (q 5), .ref (q 6), .int st, .ref (q 7), .int (nI L), .int th, .int co, .int tt, .int hh, .double ma, .double mh, .ref (q 8), .ref (q 9), .int (nI (a + 1)), .int (tx a), .int nu, .int ot, .int di, .int wh, .int sd, .long ha])), ((q 1), .inl (g 0, 127, .inl pp)), ((q 2), .inl (g 1, 52, .inr (.inr (.inr (.inl dd))))), ((q 3), .inl (g 0, 127, .inl pa)), ((q 4), .inl (g 1, 52, .inr (.inr (.inr (.inl da))))), ((q 5), .inl (g 0, 508, .inl ps)), ((q 6), .inl (g 1, 208, .inr (.inr (.inr (.inl ds))))), ((q 7), .inl (g 0, 100, .inl tx)), ((q 8), .inl (g 0, 5, .inl rw)), ((q 9), .inl (g 0, 5, .inl mb))]) := hD
      refine lv_iload_n hx hb dX8_readOrder_68 rfl (lv_at hl 0 rfl) ?_
      refine lv_if_eq (tgt := 133) hx hb dX8_readOrder_69 (by decide) (fun c_69 => ?_) (fun c_69 => ?_)
      · exact absurd c_69 (by decide)
      · skip
        refine lv_aload_n hx hb dX8_readOrder_72 rfl (lv_at hl 1 rfl) ?_
        refine gf_X8_228 E hP 0 rfl rfl dX8_readOrder_73 ?_
        refine lv_bipush (v := 108) hx hb dX8_readOrder_76 (by decide) ?_
        refine lv_icmp_eq (tgt := 129) hx hb dX8_readOrder_78 (by decide) (fun c_78 => ?_) (fun c_78 => ?_)
        · exact absurd (c_14.symm.trans c_78) (by decide)
        · skip
          refine lv_aload_n hx hb dX8_readOrder_81 rfl (lv_at hl 1 rfl) ?_
          refine gf_X8_228 E hP 0 rfl rfl dX8_readOrder_82 ?_
          refine lv_bipush (v := 115) hx hb dX8_readOrder_85 (by decide) ?_
          refine lv_icmp_ne (tgt := 100) hx hb dX8_readOrder_87 (by decide) (fun c_87 => ?_) (fun c_87 => ?_)
          · exact absurd c_14 c_87
          · skip
            refine lv_aload_n hx hb dX8_readOrder_90 rfl (lv_at hl 1 rfl) ?_
            refine cl_X8_231 (As := []) (rest := []) (b := (q 0)) (wc := [((q 0), .inr (8, [.ref (q 1), .ref (q 2), .ref (q 3), .ref (q 4), .ref (q 5), .ref (q 6), .int st, .ref (q 7), .int (nI L), .int th, .int co, .int tt, .int hh, .double ma, .double mh, .ref (q 8), .ref (q 9), .int (nI (a + 1)), .int (tx a), .int nu, .int ot, .int di, .int wh, .int sd, .long ha])), ((q 1), .inl (g 0, 127, .inl pp)), ((q 2), .inl (g 1, 52, .inr (.inr (.inr (.inl dd))))), ((q 3), .inl (g 0, 127, .inl pa)), ((q 4), .inl (g 1, 52, .inr (.inr (.inr (.inl da))))), ((q 5), .inl (g 0, 508, .inl ps)), ((q 6), .inl (g 1, 208, .inr (.inr (.inr (.inl ds))))), ((q 7), .inl (g 0, 100, .inl tx)), ((q 8), .inl (g 0, 5, .inl rw)), ((q 9), .inl (g 0, 5, .inl mb))]) (wr := []) (wn := (fun (u : (Nat × Int32 × Int32)) => match u with | (a9_1, o9_2, v9_3) => [((q 0), .inr (8, [.ref (q 1), .ref (q 2), .ref (q 3), .ref (q 4), .ref (q 5), .ref (q 6), .int st, .ref (q 7), .int (nI L), .int th, .int co, .int tt, .int hh, .double ma, .double mh, .ref (q 8), .ref (q 9), .int (nI a9_1), .int (tx a), .int v9_3, .int o9_2, .int di, .int wh, .int sd, .long ha])), ((q 1), .inl (g 0, 127, .inl pp)), ((q 2), .inl (g 1, 52, .inr (.inr (.inr (.inl dd))))), ((q 3), .inl (g 0, 127, .inl pa)), ((q 4), .inl (g 1, 52, .inr (.inr (.inr (.inl da))))), ((q 5), .inl (g 0, 508, .inl ps)), ((q 6), .inl (g 1, 208, .inr (.inr (.inr (.inl ds))))), ((q 7), .inl (g 0, 100, .inl tx)), ((q 8), .inl (g 0, 5, .inl rw)), ((q 9), .inl (g 0, 5, .inl mb))])) (isC := [0, 1, 2, 3, 4, 5, 6, 7, 8, 9]) (isR := []) (isP := [0, 1, 2, 3, 4, 5, 6, 7, 8, 9]) E hS hA hP hD ⟨rfl, rfl, rfl, rfl, by decide, fun _ => rfl, rfl⟩ (CX8_readPlace l D g _ q pp dd pa da ps ds tx rw mb st th co tt hh ma mh (tx a) nu ot di wh sd ha (a + 1) L (by first | assumption | omega) (by omega)) ⟨Nat.le_of_ble_eq_true rfl, Nat.le_of_ble_eq_true rfl⟩ rfl rfl 0 rfl rfl hl.1 rfl (Nat.le_of_ble_eq_true rfl) ⟨Nat.le_of_ble_eq_true rfl, Nat.le_of_ble_eq_true rfl⟩ dX8_readOrder_91 (fun r u H locs hw hP hD hS => ?_)
            obtain ⟨a9_1, o9_2, v9_3⟩ := u
            dsimp only at hw hP hD
            have hP : va_P D vwCl ([((q 0), .inr (8, [.ref (q 1), .ref (q 2), .ref (q 3), .ref (q 4), .ref (q 5), .ref (q 6), .int st, .ref (q 7), .int (nI L), .int th, .int co, .int tt, .int hh, .double ma, .double mh, .ref (q 8), .ref (q 9), .int (nI a9_1), .int (tx a), .int v9_3, .int o9_2, .int di, .int wh, .int sd, .long ha])), ((q 1), .inl (g 0, 127, .inl pp)), ((q 2), .inl (g 1, 52, .inr (.inr (.inr (.inl dd))))), ((q 3), .inl (g 0, 127, .inl pa)), ((q 4), .inl (g 1, 52, .inr (.inr (.inr (.inl da))))), ((q 5), .inl (g 0, 508, .inl ps)), ((q 6), .inl (g 1, 208, .inr (.inr (.inr (.inl ds))))), ((q 7), .inl (g 0, 100, .inl tx)), ((q 8), .inl (g 0, 5, .inl rw)), ((q 9), .inl (g 0, 5, .inl mb))]) H := hP
            have hD : va_D A ([((q 0), .inr (8, [.ref (q 1), .ref (q 2), .ref (q 3), .ref (q 4), .ref (q 5), .ref (q 6), .int st, .ref (q 7), .int (nI L), .int th, .int co, .int tt, .int hh, .double ma, .double mh, .ref (q 8), .ref (q 9), .int (nI a9_1), .int (tx a), .int v9_3, .int o9_2, .int di, .int wh, .int sd, .long ha])), ((q 1), .inl (g 0, 127, .inl pp)), ((q 2), .inl (g 1, 52, .inr (.inr (.inr (.inl dd))))), ((q 3), .inl (g 0, 127, .inl pa)), ((q 4), .inl (g 1, 52, .inr (.inr (.inr (.inl da))))), ((q 5), .inl (g 0, 508, .inl ps)), ((q 6), .inl (g 1, 208, .inr (.inr (.inr (.inl ds))))), ((q 7), .inl (g 0, 100, .inl tx)), ((q 8), .inl (g 0, 5, .inl rw)), ((q 9), .inl (g 0, 5, .inl mb))]) := hD
            obtain ⟨r4, er4⟩ : ∃ z, z = r := ⟨_, rfl⟩
            rw [← er4] at hw ⊢; have hw5 := hw
            rcases hw5 with ⟨rfl, b_91⟩ | ⟨rfl, b_91⟩
            · skip
              refine lv_if_eq (tgt := 133) hx hb dX8_readOrder_94 (by decide) (fun c_94 => ?_) (fun c_94 => ?_)
              · exact absurd c_94 (by decide)
              · skip
                refine lv_goto (tgt := 129) hx hb dX8_readOrder_97 (by decide) ?_
                refine lv_iconst (v := 1) hx hb dX8_readOrder_129 (by decide) ?_
                refine lv_goto (tgt := 134) hx hb dX8_readOrder_130 (by decide) ?_
                refine lv_istore_n (lv' := [(1, .int 1), (0, .ref (q 0))]) hx hb dX8_readOrder_134 rfl hl (by decide) rfl (fun ls hl => ?_)
                refine lv_iload_n hx hb dX8_readOrder_135 rfl (lv_at hl 0 rfl) ?_
                refine lv_if_eq (tgt := 152) hx hb dX8_readOrder_136 (by decide) (fun c_136 => ?_) (fun c_136 => ?_)
                · exact absurd c_136 (by decide)
                · skip
                  refine lv_aload_n hx hb dX8_readOrder_139 rfl (lv_at hl 1 rfl) ?_
                  refine lv_bipush (v := 59) hx hb dX8_readOrder_140 (by decide) ?_
                  refine cl_X8_213 (As := [.int 59]) (rest := []) (b := (q 0)) (wc := [((q 0), .inr (8, [.ref (q 1), .ref (q 2), .ref (q 3), .ref (q 4), .ref (q 5), .ref (q 6), .int st, .ref (q 7), .int (nI L), .int th, .int co, .int tt, .int hh, .double ma, .double mh, .ref (q 8), .ref (q 9), .int (nI a9_1), .int (tx a), .int v9_3, .int o9_2, .int di, .int wh, .int sd, .long ha])), ((q 1), .inl (g 0, 127, .inl pp)), ((q 2), .inl (g 1, 52, .inr (.inr (.inr (.inl dd))))), ((q 3), .inl (g 0, 127, .inl pa)), ((q 4), .inl (g 1, 52, .inr (.inr (.inr (.inl da))))), ((q 5), .inl (g 0, 508, .inl ps)), ((q 6), .inl (g 1, 208, .inr (.inr (.inr (.inl ds))))), ((q 7), .inl (g 0, 100, .inl tx)), ((q 8), .inl (g 0, 5, .inl rw)), ((q 9), .inl (g 0, 5, .inl mb))]) (wr := []) (wn := (fun (u : Nat) => match u with | a9_6 => [((q 0), .inr (8, [.ref (q 1), .ref (q 2), .ref (q 3), .ref (q 4), .ref (q 5), .ref (q 6), .int st, .ref (q 7), .int (nI L), .int th, .int co, .int tt, .int hh, .double ma, .double mh, .ref (q 8), .ref (q 9), .int (nI a9_6), .int (tx a), .int v9_3, .int o9_2, .int di, .int wh, .int sd, .long ha])), ((q 1), .inl (g 0, 127, .inl pp)), ((q 2), .inl (g 1, 52, .inr (.inr (.inr (.inl dd))))), ((q 3), .inl (g 0, 127, .inl pa)), ((q 4), .inl (g 1, 52, .inr (.inr (.inr (.inl da))))), ((q 5), .inl (g 0, 508, .inl ps)), ((q 6), .inl (g 1, 208, .inr (.inr (.inr (.inl ds))))), ((q 7), .inl (g 0, 100, .inl tx)), ((q 8), .inl (g 0, 5, .inl rw)), ((q 9), .inl (g 0, 5, .inl mb))])) (isC := [0, 1, 2, 3, 4, 5, 6, 7, 8, 9]) (isR := []) (isP := [0, 1, 2, 3, 4, 5, 6, 7, 8, 9]) E hS hA hP hD ⟨rfl, rfl, rfl, rfl, by decide, fun _ => rfl, rfl⟩ (CX8_passes l D g _ q pp dd pa da ps ds tx rw mb st th co tt hh ma mh (tx a) v9_3 o9_2 di wh sd ha a9_1 L 59 (by first | assumption | omega) (by rw [b_91.2.1]; exact nmF_le (skF_le (nmF_le (by omega))))) ⟨Nat.le_of_ble_eq_true rfl, Nat.le_of_ble_eq_true rfl⟩ rfl rfl 0 rfl rfl hl.1 rfl (Nat.le_of_ble_eq_true rfl) ⟨Nat.le_of_ble_eq_true rfl, Nat.le_of_ble_eq_true rfl⟩ dX8_readOrder_142 (fun r u H locs hw hP hD hS => ?_)
                  obtain ⟨a9_6, eu_9⟩ : ∃ z, z = u := ⟨_, rfl⟩
                  subst eu_9
                  dsimp only at hw hP hD
                  have hP : va_P D vwCl ([((q 0), .inr (8, [.ref (q 1), .ref (q 2), .ref (q 3), .ref (q 4), .ref (q 5), .ref (q 6), .int st, .ref (q 7), .int (nI L), .int th, .int co, .int tt, .int hh, .double ma, .double mh, .ref (q 8), .ref (q 9), .int (nI a9_6), .int (tx a), .int v9_3, .int o9_2, .int di, .int wh, .int sd, .long ha])), ((q 1), .inl (g 0, 127, .inl pp)), ((q 2), .inl (g 1, 52, .inr (.inr (.inr (.inl dd))))), ((q 3), .inl (g 0, 127, .inl pa)), ((q 4), .inl (g 1, 52, .inr (.inr (.inr (.inl da))))), ((q 5), .inl (g 0, 508, .inl ps)), ((q 6), .inl (g 1, 208, .inr (.inr (.inr (.inl ds))))), ((q 7), .inl (g 0, 100, .inl tx)), ((q 8), .inl (g 0, 5, .inl rw)), ((q 9), .inl (g 0, 5, .inl mb))]) H := hP
                  have hD : va_D A ([((q 0), .inr (8, [.ref (q 1), .ref (q 2), .ref (q 3), .ref (q 4), .ref (q 5), .ref (q 6), .int st, .ref (q 7), .int (nI L), .int th, .int co, .int tt, .int hh, .double ma, .double mh, .ref (q 8), .ref (q 9), .int (nI a9_6), .int (tx a), .int v9_3, .int o9_2, .int di, .int wh, .int sd, .long ha])), ((q 1), .inl (g 0, 127, .inl pp)), ((q 2), .inl (g 1, 52, .inr (.inr (.inr (.inl dd))))), ((q 3), .inl (g 0, 127, .inl pa)), ((q 4), .inl (g 1, 52, .inr (.inr (.inr (.inl da))))), ((q 5), .inl (g 0, 508, .inl ps)), ((q 6), .inl (g 1, 208, .inr (.inr (.inr (.inl ds))))), ((q 7), .inl (g 0, 100, .inl tx)), ((q 8), .inl (g 0, 5, .inl rw)), ((q 9), .inl (g 0, 5, .inl mb))]) := hD
                  obtain ⟨r7, er7⟩ : ∃ z, z = r := ⟨_, rfl⟩
                  rw [← er7] at hw ⊢; have hw8 := hw
                  rcases hw8 with ⟨rfl, b_142⟩ | ⟨rfl, b_142⟩
                  · skip
                    refine lv_if_eq (tgt := 152) hx hb dX8_readOrder_145 (by decide) (fun c_145 => ?_) (fun c_145 => ?_)
                    · exact absurd c_145 (by decide)
                    · skip
                      refine lv_iconst (v := 1) hx hb dX8_readOrder_148 (by decide) ?_
                      refine lv_goto (tgt := 153) hx hb dX8_readOrder_149 (by decide) ?_
                      exact g_zret hQ E M rfl (Or.inr rfl) hS hP hD (a9_6, (tx a), v9_3, o9_2, sd, wh, di) rfl ((Or.inl ⟨rfl, by rw [ro_s (L := L) c_14]; dsimp only; rw [sk_y b_91.1 b_91.2.1 b_142.1], by rw [ro_s (L := L) c_14, b_142.2]; dsimp only; rw [sk_y b_91.1 b_91.2.1 b_142.1], rfl, (roM_s c_14 (by rw [ro_s c_14]; exact ⟨b_91.2.2.1, b_91.2.2.2⟩))⟩)) dX8_readOrder_153
                  · skip
                    refine lv_if_eq (tgt := 152) hx hb dX8_readOrder_145 (by decide) (fun c_145 => ?_) (fun c_145 => ?_)
                    · skip
                      refine lv_iconst (v := 0) hx hb dX8_readOrder_152 (by decide) ?_
                      exact g_zret hQ E M rfl (Or.inl rfl) hS hP hD (a9_6, (tx a), v9_3, o9_2, sd, wh, di) rfl ((Or.inr ⟨rfl, by rw [ro_s (L := L) c_14, b_142.2]; exact sk_n b_91.1 b_91.2.1 b_142.1⟩)) dX8_readOrder_153
                    · exact absurd c_145 (by decide)
            · skip
              refine lv_if_eq (tgt := 133) hx hb dX8_readOrder_94 (by decide) (fun c_94 => ?_) (fun c_94 => ?_)
              · skip
                refine lv_iconst (v := 0) hx hb dX8_readOrder_133 (by decide) ?_
                refine lv_istore_n (lv' := [(1, .int 0), (0, .ref (q 0))]) hx hb dX8_readOrder_134 rfl hl (by decide) rfl (fun ls hl => ?_)
                refine lv_iload_n hx hb dX8_readOrder_135 rfl (lv_at hl 0 rfl) ?_
                refine lv_if_eq (tgt := 152) hx hb dX8_readOrder_136 (by decide) (fun c_136 => ?_) (fun c_136 => ?_)
                · skip
                  refine lv_iconst (v := 0) hx hb dX8_readOrder_152 (by decide) ?_
                  exact g_zret hQ E M rfl (Or.inl rfl) hS hP hD (a9_1, (tx a), v9_3, o9_2, sd, wh, di) rfl ((Or.inr ⟨rfl, by rw [ro_s (L := L) c_14]; exact sk_e b_91⟩)) dX8_readOrder_153
                · exact absurd c_136 (by decide)
              · exact absurd c_94 (by decide)
  · skip
    refine lv_aload_n hx hb dX8_readOrder_17 rfl (lv_at hl 0 rfl) ?_
    refine gf_X8_228 E hP 0 rfl rfl dX8_readOrder_18 ?_
    refine lv_bipush (v := 97) hx hb dX8_readOrder_21 (by decide) ?_
    refine lv_icmp_eq (tgt := 44) hx hb dX8_readOrder_23 (by decide) (fun c_23 => ?_) (fun c_23 => ?_)
    · skip
      refine lv_iconst (v := 1) hx hb dX8_readOrder_44 (by decide) ?_
      refine lv_goto (tgt := 49) hx hb dX8_readOrder_45 (by decide) ?_
      refine lv_istore_n (lv' := [(1, .int 1), (0, .ref (q 0))]) hx hb dX8_readOrder_49 rfl hl (by decide) rfl (fun ls hl => ?_)
      refine lv_aload_n hx hb dX8_readOrder_50 rfl (lv_at hl 1 rfl) ?_
      refine lv_dup hx hb dX8_readOrder_51 rfl ?_
      refine gf_X8_195 E hP 0 rfl rfl dX8_readOrder_52 ?_
      refine lv_iload_n hx hb dX8_readOrder_55 rfl (lv_at hl 0 rfl) ?_
      refine lv_if_eq (tgt := 63) hx hb dX8_readOrder_56 (by decide) (fun c_56 => ?_) (fun c_56 => ?_)
      · exact absurd c_56 (by decide)
      · skip
        refine lv_iconst (v := 1) hx hb dX8_readOrder_59 (by decide) ?_
        refine lv_goto (tgt := 64) hx hb dX8_readOrder_60 (by decide) ?_
        refine lv_iadd hx hb dX8_readOrder_64 ?_
        refine g_top (w := .int (nI (a + 1))) (congrArg Value.int (ix_add rfl rfl)) ?_
        refine gp_X8_195 E hP hD hS 0 rfl rfl rfl (Nat.le_of_ble_eq_true rfl) dX8_readOrder_65 (fun H locs hP hD hS => ?_)
        have hP : va_P D vwCl ([((q 0), .inr (8, [.ref (q 1), .ref (q 2), .ref (q 3), .ref (q 4), .ref (q 5), .ref (q 6), .int st, .ref (q 7), .int (nI L), .int th, .int co, .int tt, .int hh, .double ma, .double mh, .ref (q 8), .ref (q 9), .int (nI (a + 1)), .int (tx a), .int nu, .int ot, .int di, .int wh, .int sd, .long ha])), ((q 1), .inl (g 0, 127, .inl pp)), ((q 2), .inl (g 1, 52, .inr (.inr (.inr (.inl dd))))), ((q 3), .inl (g 0, 127, .inl pa)), ((q 4), .inl (g 1, 52, .inr (.inr (.inr (.inl da))))), ((q 5), .inl (g 0, 508, .inl ps)), ((q 6), .inl (g 1, 208, .inr (.inr (.inr (.inl ds))))), ((q 7), .inl (g 0, 100, .inl tx)), ((q 8), .inl (g 0, 5, .inl rw)), ((q 9), .inl (g 0, 5, .inl mb))]) H := hP
        have hD : va_D A ([((q 0), .inr (8, [.ref (q 1), .ref (q 2), .ref (q 3), .ref (q 4), .ref (q 5), .ref (q 6), .int st, .ref (q 7), .int (nI L), .int th, .int co, .int tt, .int hh, .double ma, .double mh, .ref (q 8), .ref (q 9), .int (nI (a + 1)), .int (tx a), .int nu, .int ot, .int di, .int wh, .int sd, .long ha])), ((q 1), .inl (g 0, 127, .inl pp)), ((q 2), .inl (g 1, 52, .inr (.inr (.inr (.inl dd))))), ((q 3), .inl (g 0, 127, .inl pa)), ((q 4), .inl (g 1, 52, .inr (.inr (.inr (.inl da))))), ((q 5), .inl (g 0, 508, .inl ps)), ((q 6), .inl (g 1, 208, .inr (.inr (.inr (.inl ds))))), ((q 7), .inl (g 0, 100, .inl tx)), ((q 8), .inl (g 0, 5, .inl rw)), ((q 9), .inl (g 0, 5, .inl mb))]) := hD
        refine lv_iload_n hx hb dX8_readOrder_68 rfl (lv_at hl 0 rfl) ?_
        refine lv_if_eq (tgt := 133) hx hb dX8_readOrder_69 (by decide) (fun c_69 => ?_) (fun c_69 => ?_)
        · exact absurd c_69 (by decide)
        · skip
          refine lv_aload_n hx hb dX8_readOrder_72 rfl (lv_at hl 1 rfl) ?_
          refine gf_X8_228 E hP 0 rfl rfl dX8_readOrder_73 ?_
          refine lv_bipush (v := 108) hx hb dX8_readOrder_76 (by decide) ?_
          refine lv_icmp_eq (tgt := 129) hx hb dX8_readOrder_78 (by decide) (fun c_78 => ?_) (fun c_78 => ?_)
          · exact absurd (c_23.symm.trans c_78) (by decide)
          · skip
            refine lv_aload_n hx hb dX8_readOrder_81 rfl (lv_at hl 1 rfl) ?_
            refine gf_X8_228 E hP 0 rfl rfl dX8_readOrder_82 ?_
            refine lv_bipush (v := 115) hx hb dX8_readOrder_85 (by decide) ?_
            refine lv_icmp_ne (tgt := 100) hx hb dX8_readOrder_87 (by decide) (fun c_87 => ?_) (fun c_87 => ?_)
            · skip
              refine lv_aload_n hx hb dX8_readOrder_100 rfl (lv_at hl 1 rfl) ?_
              refine gf_X8_228 E hP 0 rfl rfl dX8_readOrder_101 ?_
              refine lv_bipush (v := 97) hx hb dX8_readOrder_104 (by decide) ?_
              refine lv_icmp_ne (tgt := 122) hx hb dX8_readOrder_106 (by decide) (fun c_106 => ?_) (fun c_106 => ?_)
              · exact absurd c_23 c_106
              · skip
                refine lv_aload_n hx hb dX8_readOrder_109 rfl (lv_at hl 1 rfl) ?_
                refine lv_iconst (v := 2) hx hb dX8_readOrder_110 (by decide) ?_
                refine lv_bipush (v := 99) hx hb dX8_readOrder_111 (by decide) ?_
                refine cl_X8_210 (As := [.int 2, .int 99]) (rest := []) (b := (q 0)) (wc := [((q 0), .inr (8, [.ref (q 1), .ref (q 2), .ref (q 3), .ref (q 4), .ref (q 5), .ref (q 6), .int st, .ref (q 7), .int (nI L), .int th, .int co, .int tt, .int hh, .double ma, .double mh, .ref (q 8), .ref (q 9), .int (nI (a + 1)), .int (tx a), .int nu, .int ot, .int di, .int wh, .int sd, .long ha])), ((q 1), .inl (g 0, 127, .inl pp)), ((q 2), .inl (g 1, 52, .inr (.inr (.inr (.inl dd))))), ((q 3), .inl (g 0, 127, .inl pa)), ((q 4), .inl (g 1, 52, .inr (.inr (.inr (.inl da))))), ((q 5), .inl (g 0, 508, .inl ps)), ((q 6), .inl (g 1, 208, .inr (.inr (.inr (.inl ds))))), ((q 7), .inl (g 0, 100, .inl tx)), ((q 8), .inl (g 0, 5, .inl rw)), ((q 9), .inl (g 0, 5, .inl mb))]) (wr := []) (wn := (fun (u : (Nat × Int32)) => match u with | (a9_9, v9_10) => [((q 0), .inr (8, [.ref (q 1), .ref (q 2), .ref (q 3), .ref (q 4), .ref (q 5), .ref (q 6), .int st, .ref (q 7), .int (nI L), .int th, .int co, .int tt, .int hh, .double ma, .double mh, .ref (q 8), .ref (q 9), .int (nI a9_9), .int (tx a), .int v9_10, .int ot, .int di, .int wh, .int sd, .long ha])), ((q 1), .inl (g 0, 127, .inl pp)), ((q 2), .inl (g 1, 52, .inr (.inr (.inr (.inl dd))))), ((q 3), .inl (g 0, 127, .inl pa)), ((q 4), .inl (g 1, 52, .inr (.inr (.inr (.inl da))))), ((q 5), .inl (g 0, 508, .inl ps)), ((q 6), .inl (g 1, 208, .inr (.inr (.inr (.inl ds))))), ((q 7), .inl (g 0, 100, .inl tx)), ((q 8), .inl (g 0, 5, .inl rw)), ((q 9), .inl (g 0, 5, .inl mb))])) (isC := [0, 1, 2, 3, 4, 5, 6, 7, 8, 9]) (isR := []) (isP := [0, 1, 2, 3, 4, 5, 6, 7, 8, 9]) E hS hA hP hD ⟨rfl, rfl, rfl, rfl, by decide, fun _ => rfl, rfl⟩ (CX8_readNumber l D g _ q pp dd pa da ps ds tx rw mb st th co tt hh ma mh (tx a) nu ot di wh sd ha (a + 1) L 99 2 (by first | assumption | omega) (by omega) (by decide)) ⟨Nat.le_of_ble_eq_true rfl, Nat.le_of_ble_eq_true rfl⟩ rfl rfl 0 rfl rfl hl.1 rfl (Nat.le_of_ble_eq_true rfl) ⟨Nat.le_of_ble_eq_true rfl, Nat.le_of_ble_eq_true rfl⟩ dX8_readOrder_113 (fun r u H locs hw hP hD hS => ?_)
                obtain ⟨a9_9, v9_10⟩ := u
                dsimp only at hw hP hD
                have hP : va_P D vwCl ([((q 0), .inr (8, [.ref (q 1), .ref (q 2), .ref (q 3), .ref (q 4), .ref (q 5), .ref (q 6), .int st, .ref (q 7), .int (nI L), .int th, .int co, .int tt, .int hh, .double ma, .double mh, .ref (q 8), .ref (q 9), .int (nI a9_9), .int (tx a), .int v9_10, .int ot, .int di, .int wh, .int sd, .long ha])), ((q 1), .inl (g 0, 127, .inl pp)), ((q 2), .inl (g 1, 52, .inr (.inr (.inr (.inl dd))))), ((q 3), .inl (g 0, 127, .inl pa)), ((q 4), .inl (g 1, 52, .inr (.inr (.inr (.inl da))))), ((q 5), .inl (g 0, 508, .inl ps)), ((q 6), .inl (g 1, 208, .inr (.inr (.inr (.inl ds))))), ((q 7), .inl (g 0, 100, .inl tx)), ((q 8), .inl (g 0, 5, .inl rw)), ((q 9), .inl (g 0, 5, .inl mb))]) H := hP
                have hD : va_D A ([((q 0), .inr (8, [.ref (q 1), .ref (q 2), .ref (q 3), .ref (q 4), .ref (q 5), .ref (q 6), .int st, .ref (q 7), .int (nI L), .int th, .int co, .int tt, .int hh, .double ma, .double mh, .ref (q 8), .ref (q 9), .int (nI a9_9), .int (tx a), .int v9_10, .int ot, .int di, .int wh, .int sd, .long ha])), ((q 1), .inl (g 0, 127, .inl pp)), ((q 2), .inl (g 1, 52, .inr (.inr (.inr (.inl dd))))), ((q 3), .inl (g 0, 127, .inl pa)), ((q 4), .inl (g 1, 52, .inr (.inr (.inr (.inl da))))), ((q 5), .inl (g 0, 508, .inl ps)), ((q 6), .inl (g 1, 208, .inr (.inr (.inr (.inl ds))))), ((q 7), .inl (g 0, 100, .inl tx)), ((q 8), .inl (g 0, 5, .inl rw)), ((q 9), .inl (g 0, 5, .inl mb))]) := hD
                obtain ⟨r11, er11⟩ : ∃ z, z = r := ⟨_, rfl⟩
                rw [← er11] at hw ⊢; have hw12 := hw
                rcases hw12 with ⟨rfl, b_113⟩ | ⟨rfl, b_113⟩
                · skip
                  refine lv_if_eq (tgt := 133) hx hb dX8_readOrder_116 (by decide) (fun c_116 => ?_) (fun c_116 => ?_)
                  · exact absurd c_116 (by decide)
                  · skip
                    refine lv_goto (tgt := 129) hx hb dX8_readOrder_119 (by decide) ?_
                    refine lv_iconst (v := 1) hx hb dX8_readOrder_129 (by decide) ?_
                    refine lv_goto (tgt := 134) hx hb dX8_readOrder_130 (by decide) ?_
                    refine lv_istore_n (lv' := [(1, .int 1), (0, .ref (q 0))]) hx hb dX8_readOrder_134 rfl hl (by decide) rfl (fun ls hl => ?_)
                    refine lv_iload_n hx hb dX8_readOrder_135 rfl (lv_at hl 0 rfl) ?_
                    refine lv_if_eq (tgt := 152) hx hb dX8_readOrder_136 (by decide) (fun c_136 => ?_) (fun c_136 => ?_)
                    · exact absurd c_136 (by decide)
                    · skip
                      refine lv_aload_n hx hb dX8_readOrder_139 rfl (lv_at hl 1 rfl) ?_
                      refine lv_bipush (v := 59) hx hb dX8_readOrder_140 (by decide) ?_
                      refine cl_X8_213 (As := [.int 59]) (rest := []) (b := (q 0)) (wc := [((q 0), .inr (8, [.ref (q 1), .ref (q 2), .ref (q 3), .ref (q 4), .ref (q 5), .ref (q 6), .int st, .ref (q 7), .int (nI L), .int th, .int co, .int tt, .int hh, .double ma, .double mh, .ref (q 8), .ref (q 9), .int (nI a9_9), .int (tx a), .int v9_10, .int ot, .int di, .int wh, .int sd, .long ha])), ((q 1), .inl (g 0, 127, .inl pp)), ((q 2), .inl (g 1, 52, .inr (.inr (.inr (.inl dd))))), ((q 3), .inl (g 0, 127, .inl pa)), ((q 4), .inl (g 1, 52, .inr (.inr (.inr (.inl da))))), ((q 5), .inl (g 0, 508, .inl ps)), ((q 6), .inl (g 1, 208, .inr (.inr (.inr (.inl ds))))), ((q 7), .inl (g 0, 100, .inl tx)), ((q 8), .inl (g 0, 5, .inl rw)), ((q 9), .inl (g 0, 5, .inl mb))]) (wr := []) (wn := (fun (u : Nat) => match u with | a9_13 => [((q 0), .inr (8, [.ref (q 1), .ref (q 2), .ref (q 3), .ref (q 4), .ref (q 5), .ref (q 6), .int st, .ref (q 7), .int (nI L), .int th, .int co, .int tt, .int hh, .double ma, .double mh, .ref (q 8), .ref (q 9), .int (nI a9_13), .int (tx a), .int v9_10, .int ot, .int di, .int wh, .int sd, .long ha])), ((q 1), .inl (g 0, 127, .inl pp)), ((q 2), .inl (g 1, 52, .inr (.inr (.inr (.inl dd))))), ((q 3), .inl (g 0, 127, .inl pa)), ((q 4), .inl (g 1, 52, .inr (.inr (.inr (.inl da))))), ((q 5), .inl (g 0, 508, .inl ps)), ((q 6), .inl (g 1, 208, .inr (.inr (.inr (.inl ds))))), ((q 7), .inl (g 0, 100, .inl tx)), ((q 8), .inl (g 0, 5, .inl rw)), ((q 9), .inl (g 0, 5, .inl mb))])) (isC := [0, 1, 2, 3, 4, 5, 6, 7, 8, 9]) (isR := []) (isP := [0, 1, 2, 3, 4, 5, 6, 7, 8, 9]) E hS hA hP hD ⟨rfl, rfl, rfl, rfl, by decide, fun _ => rfl, rfl⟩ (CX8_passes l D g _ q pp dd pa da ps ds tx rw mb st th co tt hh ma mh (tx a) v9_10 ot di wh sd ha a9_9 L 59 (by first | assumption | omega) (by rw [b_113.2.1]; exact nmF_le (by omega))) ⟨Nat.le_of_ble_eq_true rfl, Nat.le_of_ble_eq_true rfl⟩ rfl rfl 0 rfl rfl hl.1 rfl (Nat.le_of_ble_eq_true rfl) ⟨Nat.le_of_ble_eq_true rfl, Nat.le_of_ble_eq_true rfl⟩ dX8_readOrder_142 (fun r u H locs hw hP hD hS => ?_)
                      obtain ⟨a9_13, eu_9⟩ : ∃ z, z = u := ⟨_, rfl⟩
                      subst eu_9
                      dsimp only at hw hP hD
                      have hP : va_P D vwCl ([((q 0), .inr (8, [.ref (q 1), .ref (q 2), .ref (q 3), .ref (q 4), .ref (q 5), .ref (q 6), .int st, .ref (q 7), .int (nI L), .int th, .int co, .int tt, .int hh, .double ma, .double mh, .ref (q 8), .ref (q 9), .int (nI a9_13), .int (tx a), .int v9_10, .int ot, .int di, .int wh, .int sd, .long ha])), ((q 1), .inl (g 0, 127, .inl pp)), ((q 2), .inl (g 1, 52, .inr (.inr (.inr (.inl dd))))), ((q 3), .inl (g 0, 127, .inl pa)), ((q 4), .inl (g 1, 52, .inr (.inr (.inr (.inl da))))), ((q 5), .inl (g 0, 508, .inl ps)), ((q 6), .inl (g 1, 208, .inr (.inr (.inr (.inl ds))))), ((q 7), .inl (g 0, 100, .inl tx)), ((q 8), .inl (g 0, 5, .inl rw)), ((q 9), .inl (g 0, 5, .inl mb))]) H := hP
                      have hD : va_D A ([((q 0), .inr (8, [.ref (q 1), .ref (q 2), .ref (q 3), .ref (q 4), .ref (q 5), .ref (q 6), .int st, .ref (q 7), .int (nI L), .int th, .int co, .int tt, .int hh, .double ma, .double mh, .ref (q 8), .ref (q 9), .int (nI a9_13), .int (tx a), .int v9_10, .int ot, .int di, .int wh, .int sd, .long ha])), ((q 1), .inl (g 0, 127, .inl pp)), ((q 2), .inl (g 1, 52, .inr (.inr (.inr (.inl dd))))), ((q 3), .inl (g 0, 127, .inl pa)), ((q 4), .inl (g 1, 52, .inr (.inr (.inr (.inl da))))), ((q 5), .inl (g 0, 508, .inl ps)), ((q 6), .inl (g 1, 208, .inr (.inr (.inr (.inl ds))))), ((q 7), .inl (g 0, 100, .inl tx)), ((q 8), .inl (g 0, 5, .inl rw)), ((q 9), .inl (g 0, 5, .inl mb))]) := hD
                      obtain ⟨r14, er14⟩ : ∃ z, z = r := ⟨_, rfl⟩
                      rw [← er14] at hw ⊢; have hw15 := hw
                      rcases hw15 with ⟨rfl, b_142⟩ | ⟨rfl, b_142⟩
                      · skip
                        refine lv_if_eq (tgt := 152) hx hb dX8_readOrder_145 (by decide) (fun c_145 => ?_) (fun c_145 => ?_)
                        · exact absurd c_145 (by decide)
                        · skip
                          refine lv_iconst (v := 1) hx hb dX8_readOrder_148 (by decide) ?_
                          refine lv_goto (tgt := 153) hx hb dX8_readOrder_149 (by decide) ?_
                          exact g_zret hQ E M rfl (Or.inr rfl) hS hP hD (a9_13, (tx a), v9_10, ot, sd, wh, di) rfl ((Or.inl ⟨rfl, by rw [roF_a (L := L) c_23]; dsimp only; rw [sk_y b_113.1 b_113.2.1 b_142.1], by rw [roF_a (L := L) c_23, b_142.2]; dsimp only; rw [sk_y b_113.1 b_113.2.1 b_142.1], rfl, (roM_a c_23 (by rw [roF_a c_23]; exact b_113.2.2))⟩)) dX8_readOrder_153
                      · skip
                        refine lv_if_eq (tgt := 152) hx hb dX8_readOrder_145 (by decide) (fun c_145 => ?_) (fun c_145 => ?_)
                        · skip
                          refine lv_iconst (v := 0) hx hb dX8_readOrder_152 (by decide) ?_
                          exact g_zret hQ E M rfl (Or.inl rfl) hS hP hD (a9_13, (tx a), v9_10, ot, sd, wh, di) rfl ((Or.inr ⟨rfl, by rw [roF_a (L := L) c_23, b_142.2]; exact sk_n b_113.1 b_113.2.1 b_142.1⟩)) dX8_readOrder_153
                        · exact absurd c_145 (by decide)
                · skip
                  refine lv_if_eq (tgt := 133) hx hb dX8_readOrder_116 (by decide) (fun c_116 => ?_) (fun c_116 => ?_)
                  · skip
                    refine lv_iconst (v := 0) hx hb dX8_readOrder_133 (by decide) ?_
                    refine lv_istore_n (lv' := [(1, .int 0), (0, .ref (q 0))]) hx hb dX8_readOrder_134 rfl hl (by decide) rfl (fun ls hl => ?_)
                    refine lv_iload_n hx hb dX8_readOrder_135 rfl (lv_at hl 0 rfl) ?_
                    refine lv_if_eq (tgt := 152) hx hb dX8_readOrder_136 (by decide) (fun c_136 => ?_) (fun c_136 => ?_)
                    · skip
                      refine lv_iconst (v := 0) hx hb dX8_readOrder_152 (by decide) ?_
                      exact g_zret hQ E M rfl (Or.inl rfl) hS hP hD (a9_9, (tx a), v9_10, ot, sd, wh, di) rfl ((Or.inr ⟨rfl, by rw [roF_a (L := L) c_23]; exact sk_e b_113⟩)) dX8_readOrder_153
                    · exact absurd c_136 (by decide)
                  · exact absurd c_116 (by decide)
            · exact absurd (c_23.symm.trans c_87) (by decide)
    · skip
      refine lv_aload_n hx hb dX8_readOrder_26 rfl (lv_at hl 0 rfl) ?_
      refine gf_X8_228 E hP 0 rfl rfl dX8_readOrder_27 ?_
      refine lv_bipush (v := 108) hx hb dX8_readOrder_30 (by decide) ?_
      refine lv_icmp_eq (tgt := 44) hx hb dX8_readOrder_32 (by decide) (fun c_32 => ?_) (fun c_32 => ?_)
      · skip
        refine lv_iconst (v := 1) hx hb dX8_readOrder_44 (by decide) ?_
        refine lv_goto (tgt := 49) hx hb dX8_readOrder_45 (by decide) ?_
        refine lv_istore_n (lv' := [(1, .int 1), (0, .ref (q 0))]) hx hb dX8_readOrder_49 rfl hl (by decide) rfl (fun ls hl => ?_)
        refine lv_aload_n hx hb dX8_readOrder_50 rfl (lv_at hl 1 rfl) ?_
        refine lv_dup hx hb dX8_readOrder_51 rfl ?_
        refine gf_X8_195 E hP 0 rfl rfl dX8_readOrder_52 ?_
        refine lv_iload_n hx hb dX8_readOrder_55 rfl (lv_at hl 0 rfl) ?_
        refine lv_if_eq (tgt := 63) hx hb dX8_readOrder_56 (by decide) (fun c_56 => ?_) (fun c_56 => ?_)
        · exact absurd c_56 (by decide)
        · skip
          refine lv_iconst (v := 1) hx hb dX8_readOrder_59 (by decide) ?_
          refine lv_goto (tgt := 64) hx hb dX8_readOrder_60 (by decide) ?_
          refine lv_iadd hx hb dX8_readOrder_64 ?_
          refine g_top (w := .int (nI (a + 1))) (congrArg Value.int (ix_add rfl rfl)) ?_
          refine gp_X8_195 E hP hD hS 0 rfl rfl rfl (Nat.le_of_ble_eq_true rfl) dX8_readOrder_65 (fun H locs hP hD hS => ?_)
          have hP : va_P D vwCl ([((q 0), .inr (8, [.ref (q 1), .ref (q 2), .ref (q 3), .ref (q 4), .ref (q 5), .ref (q 6), .int st, .ref (q 7), .int (nI L), .int th, .int co, .int tt, .int hh, .double ma, .double mh, .ref (q 8), .ref (q 9), .int (nI (a + 1)), .int (tx a), .int nu, .int ot, .int di, .int wh, .int sd, .long ha])), ((q 1), .inl (g 0, 127, .inl pp)), ((q 2), .inl (g 1, 52, .inr (.inr (.inr (.inl dd))))), ((q 3), .inl (g 0, 127, .inl pa)), ((q 4), .inl (g 1, 52, .inr (.inr (.inr (.inl da))))), ((q 5), .inl (g 0, 508, .inl ps)), ((q 6), .inl (g 1, 208, .inr (.inr (.inr (.inl ds))))), ((q 7), .inl (g 0, 100, .inl tx)), ((q 8), .inl (g 0, 5, .inl rw)), ((q 9), .inl (g 0, 5, .inl mb))]) H := hP
          have hD : va_D A ([((q 0), .inr (8, [.ref (q 1), .ref (q 2), .ref (q 3), .ref (q 4), .ref (q 5), .ref (q 6), .int st, .ref (q 7), .int (nI L), .int th, .int co, .int tt, .int hh, .double ma, .double mh, .ref (q 8), .ref (q 9), .int (nI (a + 1)), .int (tx a), .int nu, .int ot, .int di, .int wh, .int sd, .long ha])), ((q 1), .inl (g 0, 127, .inl pp)), ((q 2), .inl (g 1, 52, .inr (.inr (.inr (.inl dd))))), ((q 3), .inl (g 0, 127, .inl pa)), ((q 4), .inl (g 1, 52, .inr (.inr (.inr (.inl da))))), ((q 5), .inl (g 0, 508, .inl ps)), ((q 6), .inl (g 1, 208, .inr (.inr (.inr (.inl ds))))), ((q 7), .inl (g 0, 100, .inl tx)), ((q 8), .inl (g 0, 5, .inl rw)), ((q 9), .inl (g 0, 5, .inl mb))]) := hD
          refine lv_iload_n hx hb dX8_readOrder_68 rfl (lv_at hl 0 rfl) ?_
          refine lv_if_eq (tgt := 133) hx hb dX8_readOrder_69 (by decide) (fun c_69 => ?_) (fun c_69 => ?_)
          · exact absurd c_69 (by decide)
          · skip
            refine lv_aload_n hx hb dX8_readOrder_72 rfl (lv_at hl 1 rfl) ?_
            refine gf_X8_228 E hP 0 rfl rfl dX8_readOrder_73 ?_
            refine lv_bipush (v := 108) hx hb dX8_readOrder_76 (by decide) ?_
            refine lv_icmp_eq (tgt := 129) hx hb dX8_readOrder_78 (by decide) (fun c_78 => ?_) (fun c_78 => ?_)
            · skip
              refine lv_iconst (v := 1) hx hb dX8_readOrder_129 (by decide) ?_
              refine lv_goto (tgt := 134) hx hb dX8_readOrder_130 (by decide) ?_
              refine lv_istore_n (lv' := [(1, .int 1), (0, .ref (q 0))]) hx hb dX8_readOrder_134 rfl hl (by decide) rfl (fun ls hl => ?_)
              refine lv_iload_n hx hb dX8_readOrder_135 rfl (lv_at hl 0 rfl) ?_
              refine lv_if_eq (tgt := 152) hx hb dX8_readOrder_136 (by decide) (fun c_136 => ?_) (fun c_136 => ?_)
              · exact absurd c_136 (by decide)
              · skip
                refine lv_aload_n hx hb dX8_readOrder_139 rfl (lv_at hl 1 rfl) ?_
                refine lv_bipush (v := 59) hx hb dX8_readOrder_140 (by decide) ?_
                refine cl_X8_213 (As := [.int 59]) (rest := []) (b := (q 0)) (wc := [((q 0), .inr (8, [.ref (q 1), .ref (q 2), .ref (q 3), .ref (q 4), .ref (q 5), .ref (q 6), .int st, .ref (q 7), .int (nI L), .int th, .int co, .int tt, .int hh, .double ma, .double mh, .ref (q 8), .ref (q 9), .int (nI (a + 1)), .int (tx a), .int nu, .int ot, .int di, .int wh, .int sd, .long ha])), ((q 1), .inl (g 0, 127, .inl pp)), ((q 2), .inl (g 1, 52, .inr (.inr (.inr (.inl dd))))), ((q 3), .inl (g 0, 127, .inl pa)), ((q 4), .inl (g 1, 52, .inr (.inr (.inr (.inl da))))), ((q 5), .inl (g 0, 508, .inl ps)), ((q 6), .inl (g 1, 208, .inr (.inr (.inr (.inl ds))))), ((q 7), .inl (g 0, 100, .inl tx)), ((q 8), .inl (g 0, 5, .inl rw)), ((q 9), .inl (g 0, 5, .inl mb))]) (wr := []) (wn := (fun (u : Nat) => match u with | a9_16 => [((q 0), .inr (8, [.ref (q 1), .ref (q 2), .ref (q 3), .ref (q 4), .ref (q 5), .ref (q 6), .int st, .ref (q 7), .int (nI L), .int th, .int co, .int tt, .int hh, .double ma, .double mh, .ref (q 8), .ref (q 9), .int (nI a9_16), .int (tx a), .int nu, .int ot, .int di, .int wh, .int sd, .long ha])), ((q 1), .inl (g 0, 127, .inl pp)), ((q 2), .inl (g 1, 52, .inr (.inr (.inr (.inl dd))))), ((q 3), .inl (g 0, 127, .inl pa)), ((q 4), .inl (g 1, 52, .inr (.inr (.inr (.inl da))))), ((q 5), .inl (g 0, 508, .inl ps)), ((q 6), .inl (g 1, 208, .inr (.inr (.inr (.inl ds))))), ((q 7), .inl (g 0, 100, .inl tx)), ((q 8), .inl (g 0, 5, .inl rw)), ((q 9), .inl (g 0, 5, .inl mb))])) (isC := [0, 1, 2, 3, 4, 5, 6, 7, 8, 9]) (isR := []) (isP := [0, 1, 2, 3, 4, 5, 6, 7, 8, 9]) E hS hA hP hD ⟨rfl, rfl, rfl, rfl, by decide, fun _ => rfl, rfl⟩ (CX8_passes l D g _ q pp dd pa da ps ds tx rw mb st th co tt hh ma mh (tx a) nu ot di wh sd ha (a + 1) L 59 (by first | assumption | omega) (by omega)) ⟨Nat.le_of_ble_eq_true rfl, Nat.le_of_ble_eq_true rfl⟩ rfl rfl 0 rfl rfl hl.1 rfl (Nat.le_of_ble_eq_true rfl) ⟨Nat.le_of_ble_eq_true rfl, Nat.le_of_ble_eq_true rfl⟩ dX8_readOrder_142 (fun r u H locs hw hP hD hS => ?_)
                obtain ⟨a9_16, eu_9⟩ : ∃ z, z = u := ⟨_, rfl⟩
                subst eu_9
                dsimp only at hw hP hD
                have hP : va_P D vwCl ([((q 0), .inr (8, [.ref (q 1), .ref (q 2), .ref (q 3), .ref (q 4), .ref (q 5), .ref (q 6), .int st, .ref (q 7), .int (nI L), .int th, .int co, .int tt, .int hh, .double ma, .double mh, .ref (q 8), .ref (q 9), .int (nI a9_16), .int (tx a), .int nu, .int ot, .int di, .int wh, .int sd, .long ha])), ((q 1), .inl (g 0, 127, .inl pp)), ((q 2), .inl (g 1, 52, .inr (.inr (.inr (.inl dd))))), ((q 3), .inl (g 0, 127, .inl pa)), ((q 4), .inl (g 1, 52, .inr (.inr (.inr (.inl da))))), ((q 5), .inl (g 0, 508, .inl ps)), ((q 6), .inl (g 1, 208, .inr (.inr (.inr (.inl ds))))), ((q 7), .inl (g 0, 100, .inl tx)), ((q 8), .inl (g 0, 5, .inl rw)), ((q 9), .inl (g 0, 5, .inl mb))]) H := hP
                have hD : va_D A ([((q 0), .inr (8, [.ref (q 1), .ref (q 2), .ref (q 3), .ref (q 4), .ref (q 5), .ref (q 6), .int st, .ref (q 7), .int (nI L), .int th, .int co, .int tt, .int hh, .double ma, .double mh, .ref (q 8), .ref (q 9), .int (nI a9_16), .int (tx a), .int nu, .int ot, .int di, .int wh, .int sd, .long ha])), ((q 1), .inl (g 0, 127, .inl pp)), ((q 2), .inl (g 1, 52, .inr (.inr (.inr (.inl dd))))), ((q 3), .inl (g 0, 127, .inl pa)), ((q 4), .inl (g 1, 52, .inr (.inr (.inr (.inl da))))), ((q 5), .inl (g 0, 508, .inl ps)), ((q 6), .inl (g 1, 208, .inr (.inr (.inr (.inl ds))))), ((q 7), .inl (g 0, 100, .inl tx)), ((q 8), .inl (g 0, 5, .inl rw)), ((q 9), .inl (g 0, 5, .inl mb))]) := hD
                obtain ⟨r17, er17⟩ : ∃ z, z = r := ⟨_, rfl⟩
                rw [← er17] at hw ⊢; have hw18 := hw
                rcases hw18 with ⟨rfl, b_142⟩ | ⟨rfl, b_142⟩
                · skip
                  refine lv_if_eq (tgt := 152) hx hb dX8_readOrder_145 (by decide) (fun c_145 => ?_) (fun c_145 => ?_)
                  · exact absurd c_145 (by decide)
                  · skip
                    refine lv_iconst (v := 1) hx hb dX8_readOrder_148 (by decide) ?_
                    refine lv_goto (tgt := 153) hx hb dX8_readOrder_149 (by decide) ?_
                    exact g_zret hQ E M rfl (Or.inr rfl) hS hP hD (a9_16, (tx a), nu, ot, sd, wh, di) rfl ((Or.inl ⟨rfl, by rw [roF_l (L := L) c_32]; dsimp only; rw [sk_y rfl rfl b_142.1], by rw [roF_l (L := L) c_32, b_142.2]; dsimp only; rw [sk_y rfl rfl b_142.1], rfl, (roM_l c_32)⟩)) dX8_readOrder_153
                · skip
                  refine lv_if_eq (tgt := 152) hx hb dX8_readOrder_145 (by decide) (fun c_145 => ?_) (fun c_145 => ?_)
                  · skip
                    refine lv_iconst (v := 0) hx hb dX8_readOrder_152 (by decide) ?_
                    exact g_zret hQ E M rfl (Or.inl rfl) hS hP hD (a9_16, (tx a), nu, ot, sd, wh, di) rfl ((Or.inr ⟨rfl, by rw [roF_l (L := L) c_32, b_142.2]; exact sk_n rfl rfl b_142.1⟩)) dX8_readOrder_153
                  · exact absurd c_145 (by decide)
            · exact absurd c_32 c_78
      · skip
        refine lv_aload_n hx hb dX8_readOrder_35 rfl (lv_at hl 0 rfl) ?_
        refine gf_X8_228 E hP 0 rfl rfl dX8_readOrder_36 ?_
        refine lv_bipush (v := 98) hx hb dX8_readOrder_39 (by decide) ?_
        refine lv_icmp_ne (tgt := 48) hx hb dX8_readOrder_41 (by decide) (fun c_41 => ?_) (fun c_41 => ?_)
        · skip
          refine lv_iconst (v := 0) hx hb dX8_readOrder_48 (by decide) ?_
          refine lv_istore_n (lv' := [(1, .int 0), (0, .ref (q 0))]) hx hb dX8_readOrder_49 rfl hl (by decide) rfl (fun ls hl => ?_)
          refine lv_aload_n hx hb dX8_readOrder_50 rfl (lv_at hl 1 rfl) ?_
          refine lv_dup hx hb dX8_readOrder_51 rfl ?_
          refine gf_X8_195 E hP 0 rfl rfl dX8_readOrder_52 ?_
          refine lv_iload_n hx hb dX8_readOrder_55 rfl (lv_at hl 0 rfl) ?_
          refine lv_if_eq (tgt := 63) hx hb dX8_readOrder_56 (by decide) (fun c_56 => ?_) (fun c_56 => ?_)
          · skip
            refine lv_iconst (v := 0) hx hb dX8_readOrder_63 (by decide) ?_
            refine lv_iadd hx hb dX8_readOrder_64 ?_
            refine g_top (w := .int (nI (a + 0))) (congrArg Value.int (ix_add rfl rfl)) ?_
            refine gp_X8_195 E hP hD hS 0 rfl rfl rfl (Nat.le_of_ble_eq_true rfl) dX8_readOrder_65 (fun H locs hP hD hS => ?_)
            have hP : va_P D vwCl ([((q 0), .inr (8, [.ref (q 1), .ref (q 2), .ref (q 3), .ref (q 4), .ref (q 5), .ref (q 6), .int st, .ref (q 7), .int (nI L), .int th, .int co, .int tt, .int hh, .double ma, .double mh, .ref (q 8), .ref (q 9), .int (nI (a + 0)), .int (tx a), .int nu, .int ot, .int di, .int wh, .int sd, .long ha])), ((q 1), .inl (g 0, 127, .inl pp)), ((q 2), .inl (g 1, 52, .inr (.inr (.inr (.inl dd))))), ((q 3), .inl (g 0, 127, .inl pa)), ((q 4), .inl (g 1, 52, .inr (.inr (.inr (.inl da))))), ((q 5), .inl (g 0, 508, .inl ps)), ((q 6), .inl (g 1, 208, .inr (.inr (.inr (.inl ds))))), ((q 7), .inl (g 0, 100, .inl tx)), ((q 8), .inl (g 0, 5, .inl rw)), ((q 9), .inl (g 0, 5, .inl mb))]) H := hP
            have hD : va_D A ([((q 0), .inr (8, [.ref (q 1), .ref (q 2), .ref (q 3), .ref (q 4), .ref (q 5), .ref (q 6), .int st, .ref (q 7), .int (nI L), .int th, .int co, .int tt, .int hh, .double ma, .double mh, .ref (q 8), .ref (q 9), .int (nI (a + 0)), .int (tx a), .int nu, .int ot, .int di, .int wh, .int sd, .long ha])), ((q 1), .inl (g 0, 127, .inl pp)), ((q 2), .inl (g 1, 52, .inr (.inr (.inr (.inl dd))))), ((q 3), .inl (g 0, 127, .inl pa)), ((q 4), .inl (g 1, 52, .inr (.inr (.inr (.inl da))))), ((q 5), .inl (g 0, 508, .inl ps)), ((q 6), .inl (g 1, 208, .inr (.inr (.inr (.inl ds))))), ((q 7), .inl (g 0, 100, .inl tx)), ((q 8), .inl (g 0, 5, .inl rw)), ((q 9), .inl (g 0, 5, .inl mb))]) := hD
            refine lv_iload_n hx hb dX8_readOrder_68 rfl (lv_at hl 0 rfl) ?_
            refine lv_if_eq (tgt := 133) hx hb dX8_readOrder_69 (by decide) (fun c_69 => ?_) (fun c_69 => ?_)
            · skip
              refine lv_iconst (v := 0) hx hb dX8_readOrder_133 (by decide) ?_
              refine lv_istore_n (lv' := [(1, .int 0), (0, .ref (q 0))]) hx hb dX8_readOrder_134 rfl hl (by decide) rfl (fun ls hl => ?_)
              refine lv_iload_n hx hb dX8_readOrder_135 rfl (lv_at hl 0 rfl) ?_
              refine lv_if_eq (tgt := 152) hx hb dX8_readOrder_136 (by decide) (fun c_136 => ?_) (fun c_136 => ?_)
              · skip
                refine lv_iconst (v := 0) hx hb dX8_readOrder_152 (by decide) ?_
                exact g_zret hQ E M rfl (Or.inl rfl) hS hP hD (a, (tx a), nu, ot, sd, wh, di) rfl ((Or.inr ⟨rfl, by rw [roF_n c_23 c_41 c_32 c_14]⟩)) dX8_readOrder_153
              · exact absurd c_136 (by decide)
            · exact absurd c_69 (by decide)
          · exact absurd c_56 (by decide)
        · skip
          refine lv_iconst (v := 1) hx hb dX8_readOrder_44 (by decide) ?_
          refine lv_goto (tgt := 49) hx hb dX8_readOrder_45 (by decide) ?_
          refine lv_istore_n (lv' := [(1, .int 1), (0, .ref (q 0))]) hx hb dX8_readOrder_49 rfl hl (by decide) rfl (fun ls hl => ?_)
          refine lv_aload_n hx hb dX8_readOrder_50 rfl (lv_at hl 1 rfl) ?_
          refine lv_dup hx hb dX8_readOrder_51 rfl ?_
          refine gf_X8_195 E hP 0 rfl rfl dX8_readOrder_52 ?_
          refine lv_iload_n hx hb dX8_readOrder_55 rfl (lv_at hl 0 rfl) ?_
          refine lv_if_eq (tgt := 63) hx hb dX8_readOrder_56 (by decide) (fun c_56 => ?_) (fun c_56 => ?_)
          · exact absurd c_56 (by decide)
          · skip
            refine lv_iconst (v := 1) hx hb dX8_readOrder_59 (by decide) ?_
            refine lv_goto (tgt := 64) hx hb dX8_readOrder_60 (by decide) ?_
            refine lv_iadd hx hb dX8_readOrder_64 ?_
            refine g_top (w := .int (nI (a + 1))) (congrArg Value.int (ix_add rfl rfl)) ?_
            refine gp_X8_195 E hP hD hS 0 rfl rfl rfl (Nat.le_of_ble_eq_true rfl) dX8_readOrder_65 (fun H locs hP hD hS => ?_)
            have hP : va_P D vwCl ([((q 0), .inr (8, [.ref (q 1), .ref (q 2), .ref (q 3), .ref (q 4), .ref (q 5), .ref (q 6), .int st, .ref (q 7), .int (nI L), .int th, .int co, .int tt, .int hh, .double ma, .double mh, .ref (q 8), .ref (q 9), .int (nI (a + 1)), .int (tx a), .int nu, .int ot, .int di, .int wh, .int sd, .long ha])), ((q 1), .inl (g 0, 127, .inl pp)), ((q 2), .inl (g 1, 52, .inr (.inr (.inr (.inl dd))))), ((q 3), .inl (g 0, 127, .inl pa)), ((q 4), .inl (g 1, 52, .inr (.inr (.inr (.inl da))))), ((q 5), .inl (g 0, 508, .inl ps)), ((q 6), .inl (g 1, 208, .inr (.inr (.inr (.inl ds))))), ((q 7), .inl (g 0, 100, .inl tx)), ((q 8), .inl (g 0, 5, .inl rw)), ((q 9), .inl (g 0, 5, .inl mb))]) H := hP
            have hD : va_D A ([((q 0), .inr (8, [.ref (q 1), .ref (q 2), .ref (q 3), .ref (q 4), .ref (q 5), .ref (q 6), .int st, .ref (q 7), .int (nI L), .int th, .int co, .int tt, .int hh, .double ma, .double mh, .ref (q 8), .ref (q 9), .int (nI (a + 1)), .int (tx a), .int nu, .int ot, .int di, .int wh, .int sd, .long ha])), ((q 1), .inl (g 0, 127, .inl pp)), ((q 2), .inl (g 1, 52, .inr (.inr (.inr (.inl dd))))), ((q 3), .inl (g 0, 127, .inl pa)), ((q 4), .inl (g 1, 52, .inr (.inr (.inr (.inl da))))), ((q 5), .inl (g 0, 508, .inl ps)), ((q 6), .inl (g 1, 208, .inr (.inr (.inr (.inl ds))))), ((q 7), .inl (g 0, 100, .inl tx)), ((q 8), .inl (g 0, 5, .inl rw)), ((q 9), .inl (g 0, 5, .inl mb))]) := hD
            refine lv_iload_n hx hb dX8_readOrder_68 rfl (lv_at hl 0 rfl) ?_
            refine lv_if_eq (tgt := 133) hx hb dX8_readOrder_69 (by decide) (fun c_69 => ?_) (fun c_69 => ?_)
            · exact absurd c_69 (by decide)
            · skip
              refine lv_aload_n hx hb dX8_readOrder_72 rfl (lv_at hl 1 rfl) ?_
              refine gf_X8_228 E hP 0 rfl rfl dX8_readOrder_73 ?_
              refine lv_bipush (v := 108) hx hb dX8_readOrder_76 (by decide) ?_
              refine lv_icmp_eq (tgt := 129) hx hb dX8_readOrder_78 (by decide) (fun c_78 => ?_) (fun c_78 => ?_)
              · exact absurd (c_41.symm.trans c_78) (by decide)
              · skip
                refine lv_aload_n hx hb dX8_readOrder_81 rfl (lv_at hl 1 rfl) ?_
                refine gf_X8_228 E hP 0 rfl rfl dX8_readOrder_82 ?_
                refine lv_bipush (v := 115) hx hb dX8_readOrder_85 (by decide) ?_
                refine lv_icmp_ne (tgt := 100) hx hb dX8_readOrder_87 (by decide) (fun c_87 => ?_) (fun c_87 => ?_)
                · skip
                  refine lv_aload_n hx hb dX8_readOrder_100 rfl (lv_at hl 1 rfl) ?_
                  refine gf_X8_228 E hP 0 rfl rfl dX8_readOrder_101 ?_
                  refine lv_bipush (v := 97) hx hb dX8_readOrder_104 (by decide) ?_
                  refine lv_icmp_ne (tgt := 122) hx hb dX8_readOrder_106 (by decide) (fun c_106 => ?_) (fun c_106 => ?_)
                  · skip
                    refine lv_aload_n hx hb dX8_readOrder_122 rfl (lv_at hl 1 rfl) ?_
                    refine cl_X8_234 (As := []) (rest := []) (b := (q 0)) (wc := [((q 0), .inr (8, [.ref (q 1), .ref (q 2), .ref (q 3), .ref (q 4), .ref (q 5), .ref (q 6), .int st, .ref (q 7), .int (nI L), .int th, .int co, .int tt, .int hh, .double ma, .double mh, .ref (q 8), .ref (q 9), .int (nI (a + 1)), .int (tx a), .int nu, .int ot, .int di, .int wh, .int sd, .long ha])), ((q 1), .inl (g 0, 127, .inl pp)), ((q 2), .inl (g 1, 52, .inr (.inr (.inr (.inl dd))))), ((q 3), .inl (g 0, 127, .inl pa)), ((q 4), .inl (g 1, 52, .inr (.inr (.inr (.inl da))))), ((q 5), .inl (g 0, 508, .inl ps)), ((q 6), .inl (g 1, 208, .inr (.inr (.inr (.inl ds))))), ((q 7), .inl (g 0, 100, .inl tx)), ((q 8), .inl (g 0, 5, .inl rw)), ((q 9), .inl (g 0, 5, .inl mb))]) (wr := []) (wn := (fun (u : (Nat × Int32 × Int32 × Int32 × Int32)) => match u with | (a9_19, s9_20, w9_21, v9_22, d9_23) => [((q 0), .inr (8, [.ref (q 1), .ref (q 2), .ref (q 3), .ref (q 4), .ref (q 5), .ref (q 6), .int st, .ref (q 7), .int (nI L), .int th, .int co, .int tt, .int hh, .double ma, .double mh, .ref (q 8), .ref (q 9), .int (nI a9_19), .int (tx a), .int v9_22, .int ot, .int d9_23, .int w9_21, .int s9_20, .long ha])), ((q 1), .inl (g 0, 127, .inl pp)), ((q 2), .inl (g 1, 52, .inr (.inr (.inr (.inl dd))))), ((q 3), .inl (g 0, 127, .inl pa)), ((q 4), .inl (g 1, 52, .inr (.inr (.inr (.inl da))))), ((q 5), .inl (g 0, 508, .inl ps)), ((q 6), .inl (g 1, 208, .inr (.inr (.inr (.inl ds))))), ((q 7), .inl (g 0, 100, .inl tx)), ((q 8), .inl (g 0, 5, .inl rw)), ((q 9), .inl (g 0, 5, .inl mb))])) (isC := [0, 1, 2, 3, 4, 5, 6, 7, 8, 9]) (isR := []) (isP := [0, 1, 2, 3, 4, 5, 6, 7, 8, 9]) E hS hA hP hD ⟨rfl, rfl, rfl, rfl, by decide, fun _ => rfl, rfl⟩ (CX8_readBend l D g _ q pp dd pa da ps ds tx rw mb st th co tt hh ma mh (tx a) nu ot di wh sd ha (a + 1) L (by first | assumption | omega) (by omega)) ⟨Nat.le_of_ble_eq_true rfl, Nat.le_of_ble_eq_true rfl⟩ rfl rfl 0 rfl rfl hl.1 rfl (Nat.le_of_ble_eq_true rfl) ⟨Nat.le_of_ble_eq_true rfl, Nat.le_of_ble_eq_true rfl⟩ dX8_readOrder_123 (fun r u H locs hw hP hD hS => ?_)
                    obtain ⟨a9_19, s9_20, w9_21, v9_22, d9_23⟩ := u
                    dsimp only at hw hP hD
                    have hP : va_P D vwCl ([((q 0), .inr (8, [.ref (q 1), .ref (q 2), .ref (q 3), .ref (q 4), .ref (q 5), .ref (q 6), .int st, .ref (q 7), .int (nI L), .int th, .int co, .int tt, .int hh, .double ma, .double mh, .ref (q 8), .ref (q 9), .int (nI a9_19), .int (tx a), .int v9_22, .int ot, .int d9_23, .int w9_21, .int s9_20, .long ha])), ((q 1), .inl (g 0, 127, .inl pp)), ((q 2), .inl (g 1, 52, .inr (.inr (.inr (.inl dd))))), ((q 3), .inl (g 0, 127, .inl pa)), ((q 4), .inl (g 1, 52, .inr (.inr (.inr (.inl da))))), ((q 5), .inl (g 0, 508, .inl ps)), ((q 6), .inl (g 1, 208, .inr (.inr (.inr (.inl ds))))), ((q 7), .inl (g 0, 100, .inl tx)), ((q 8), .inl (g 0, 5, .inl rw)), ((q 9), .inl (g 0, 5, .inl mb))]) H := hP
                    have hD : va_D A ([((q 0), .inr (8, [.ref (q 1), .ref (q 2), .ref (q 3), .ref (q 4), .ref (q 5), .ref (q 6), .int st, .ref (q 7), .int (nI L), .int th, .int co, .int tt, .int hh, .double ma, .double mh, .ref (q 8), .ref (q 9), .int (nI a9_19), .int (tx a), .int v9_22, .int ot, .int d9_23, .int w9_21, .int s9_20, .long ha])), ((q 1), .inl (g 0, 127, .inl pp)), ((q 2), .inl (g 1, 52, .inr (.inr (.inr (.inl dd))))), ((q 3), .inl (g 0, 127, .inl pa)), ((q 4), .inl (g 1, 52, .inr (.inr (.inr (.inl da))))), ((q 5), .inl (g 0, 508, .inl ps)), ((q 6), .inl (g 1, 208, .inr (.inr (.inr (.inl ds))))), ((q 7), .inl (g 0, 100, .inl tx)), ((q 8), .inl (g 0, 5, .inl rw)), ((q 9), .inl (g 0, 5, .inl mb))]) := hD
                    obtain ⟨r24, er24⟩ : ∃ z, z = r := ⟨_, rfl⟩
                    rw [← er24] at hw ⊢; have hw25 := hw
                    rcases hw25 with ⟨rfl, b_123⟩ | ⟨rfl, b_123⟩
                    · skip
                      refine lv_if_eq (tgt := 133) hx hb dX8_readOrder_126 (by decide) (fun c_126 => ?_) (fun c_126 => ?_)
                      · exact absurd c_126 (by decide)
                      · skip
                        refine lv_iconst (v := 1) hx hb dX8_readOrder_129 (by decide) ?_
                        refine lv_goto (tgt := 134) hx hb dX8_readOrder_130 (by decide) ?_
                        refine lv_istore_n (lv' := [(1, .int 1), (0, .ref (q 0))]) hx hb dX8_readOrder_134 rfl hl (by decide) rfl (fun ls hl => ?_)
                        refine lv_iload_n hx hb dX8_readOrder_135 rfl (lv_at hl 0 rfl) ?_
                        refine lv_if_eq (tgt := 152) hx hb dX8_readOrder_136 (by decide) (fun c_136 => ?_) (fun c_136 => ?_)
                        · exact absurd c_136 (by decide)
                        · skip
                          refine lv_aload_n hx hb dX8_readOrder_139 rfl (lv_at hl 1 rfl) ?_
                          refine lv_bipush (v := 59) hx hb dX8_readOrder_140 (by decide) ?_
                          refine cl_X8_213 (As := [.int 59]) (rest := []) (b := (q 0)) (wc := [((q 0), .inr (8, [.ref (q 1), .ref (q 2), .ref (q 3), .ref (q 4), .ref (q 5), .ref (q 6), .int st, .ref (q 7), .int (nI L), .int th, .int co, .int tt, .int hh, .double ma, .double mh, .ref (q 8), .ref (q 9), .int (nI a9_19), .int (tx a), .int v9_22, .int ot, .int d9_23, .int w9_21, .int s9_20, .long ha])), ((q 1), .inl (g 0, 127, .inl pp)), ((q 2), .inl (g 1, 52, .inr (.inr (.inr (.inl dd))))), ((q 3), .inl (g 0, 127, .inl pa)), ((q 4), .inl (g 1, 52, .inr (.inr (.inr (.inl da))))), ((q 5), .inl (g 0, 508, .inl ps)), ((q 6), .inl (g 1, 208, .inr (.inr (.inr (.inl ds))))), ((q 7), .inl (g 0, 100, .inl tx)), ((q 8), .inl (g 0, 5, .inl rw)), ((q 9), .inl (g 0, 5, .inl mb))]) (wr := []) (wn := (fun (u : Nat) => match u with | a9_26 => [((q 0), .inr (8, [.ref (q 1), .ref (q 2), .ref (q 3), .ref (q 4), .ref (q 5), .ref (q 6), .int st, .ref (q 7), .int (nI L), .int th, .int co, .int tt, .int hh, .double ma, .double mh, .ref (q 8), .ref (q 9), .int (nI a9_26), .int (tx a), .int v9_22, .int ot, .int d9_23, .int w9_21, .int s9_20, .long ha])), ((q 1), .inl (g 0, 127, .inl pp)), ((q 2), .inl (g 1, 52, .inr (.inr (.inr (.inl dd))))), ((q 3), .inl (g 0, 127, .inl pa)), ((q 4), .inl (g 1, 52, .inr (.inr (.inr (.inl da))))), ((q 5), .inl (g 0, 508, .inl ps)), ((q 6), .inl (g 1, 208, .inr (.inr (.inr (.inl ds))))), ((q 7), .inl (g 0, 100, .inl tx)), ((q 8), .inl (g 0, 5, .inl rw)), ((q 9), .inl (g 0, 5, .inl mb))])) (isC := [0, 1, 2, 3, 4, 5, 6, 7, 8, 9]) (isR := []) (isP := [0, 1, 2, 3, 4, 5, 6, 7, 8, 9]) E hS hA hP hD ⟨rfl, rfl, rfl, rfl, by decide, fun _ => rfl, rfl⟩ (CX8_passes l D g _ q pp dd pa da ps ds tx rw mb st th co tt hh ma mh (tx a) v9_22 ot d9_23 w9_21 s9_20 ha a9_19 L 59 (by first | assumption | omega) (by rw [b_123.2.1]; exact bdF_le (by omega))) ⟨Nat.le_of_ble_eq_true rfl, Nat.le_of_ble_eq_true rfl⟩ rfl rfl 0 rfl rfl hl.1 rfl (Nat.le_of_ble_eq_true rfl) ⟨Nat.le_of_ble_eq_true rfl, Nat.le_of_ble_eq_true rfl⟩ dX8_readOrder_142 (fun r u H locs hw hP hD hS => ?_)
                          obtain ⟨a9_26, eu_9⟩ : ∃ z, z = u := ⟨_, rfl⟩
                          subst eu_9
                          dsimp only at hw hP hD
                          have hP : va_P D vwCl ([((q 0), .inr (8, [.ref (q 1), .ref (q 2), .ref (q 3), .ref (q 4), .ref (q 5), .ref (q 6), .int st, .ref (q 7), .int (nI L), .int th, .int co, .int tt, .int hh, .double ma, .double mh, .ref (q 8), .ref (q 9), .int (nI a9_26), .int (tx a), .int v9_22, .int ot, .int d9_23, .int w9_21, .int s9_20, .long ha])), ((q 1), .inl (g 0, 127, .inl pp)), ((q 2), .inl (g 1, 52, .inr (.inr (.inr (.inl dd))))), ((q 3), .inl (g 0, 127, .inl pa)), ((q 4), .inl (g 1, 52, .inr (.inr (.inr (.inl da))))), ((q 5), .inl (g 0, 508, .inl ps)), ((q 6), .inl (g 1, 208, .inr (.inr (.inr (.inl ds))))), ((q 7), .inl (g 0, 100, .inl tx)), ((q 8), .inl (g 0, 5, .inl rw)), ((q 9), .inl (g 0, 5, .inl mb))]) H := hP
                          have hD : va_D A ([((q 0), .inr (8, [.ref (q 1), .ref (q 2), .ref (q 3), .ref (q 4), .ref (q 5), .ref (q 6), .int st, .ref (q 7), .int (nI L), .int th, .int co, .int tt, .int hh, .double ma, .double mh, .ref (q 8), .ref (q 9), .int (nI a9_26), .int (tx a), .int v9_22, .int ot, .int d9_23, .int w9_21, .int s9_20, .long ha])), ((q 1), .inl (g 0, 127, .inl pp)), ((q 2), .inl (g 1, 52, .inr (.inr (.inr (.inl dd))))), ((q 3), .inl (g 0, 127, .inl pa)), ((q 4), .inl (g 1, 52, .inr (.inr (.inr (.inl da))))), ((q 5), .inl (g 0, 508, .inl ps)), ((q 6), .inl (g 1, 208, .inr (.inr (.inr (.inl ds))))), ((q 7), .inl (g 0, 100, .inl tx)), ((q 8), .inl (g 0, 5, .inl rw)), ((q 9), .inl (g 0, 5, .inl mb))]) := hD
                          obtain ⟨r27, er27⟩ : ∃ z, z = r := ⟨_, rfl⟩
                          rw [← er27] at hw ⊢; have hw28 := hw
                          rcases hw28 with ⟨rfl, b_142⟩ | ⟨rfl, b_142⟩
                          · skip
                            refine lv_if_eq (tgt := 152) hx hb dX8_readOrder_145 (by decide) (fun c_145 => ?_) (fun c_145 => ?_)
                            · exact absurd c_145 (by decide)
                            · skip
                              refine lv_iconst (v := 1) hx hb dX8_readOrder_148 (by decide) ?_
                              refine lv_goto (tgt := 153) hx hb dX8_readOrder_149 (by decide) ?_
                              exact g_zret hQ E M rfl (Or.inr rfl) hS hP hD (a9_26, (tx a), v9_22, ot, s9_20, w9_21, d9_23) rfl ((Or.inl ⟨rfl, by rw [roF_b (L := L) c_41]; dsimp only; rw [sk_y b_123.1 b_123.2.1 b_142.1], by rw [roF_b (L := L) c_41, b_142.2]; dsimp only; rw [sk_y b_123.1 b_123.2.1 b_142.1], rfl, (roM_b c_41 (by rw [roF_b c_41]; exact ⟨b_123.2.2.1, b_123.2.2.2.1, b_123.2.2.2.2⟩))⟩)) dX8_readOrder_153
                          · skip
                            refine lv_if_eq (tgt := 152) hx hb dX8_readOrder_145 (by decide) (fun c_145 => ?_) (fun c_145 => ?_)
                            · skip
                              refine lv_iconst (v := 0) hx hb dX8_readOrder_152 (by decide) ?_
                              exact g_zret hQ E M rfl (Or.inl rfl) hS hP hD (a9_26, (tx a), v9_22, ot, s9_20, w9_21, d9_23) rfl ((Or.inr ⟨rfl, by rw [roF_b (L := L) c_41, b_142.2]; exact sk_n b_123.1 b_123.2.1 b_142.1⟩)) dX8_readOrder_153
                            · exact absurd c_145 (by decide)
                    · skip
                      refine lv_if_eq (tgt := 133) hx hb dX8_readOrder_126 (by decide) (fun c_126 => ?_) (fun c_126 => ?_)
                      · skip
                        refine lv_iconst (v := 0) hx hb dX8_readOrder_133 (by decide) ?_
                        refine lv_istore_n (lv' := [(1, .int 0), (0, .ref (q 0))]) hx hb dX8_readOrder_134 rfl hl (by decide) rfl (fun ls hl => ?_)
                        refine lv_iload_n hx hb dX8_readOrder_135 rfl (lv_at hl 0 rfl) ?_
                        refine lv_if_eq (tgt := 152) hx hb dX8_readOrder_136 (by decide) (fun c_136 => ?_) (fun c_136 => ?_)
                        · skip
                          refine lv_iconst (v := 0) hx hb dX8_readOrder_152 (by decide) ?_
                          exact g_zret hQ E M rfl (Or.inl rfl) hS hP hD (a9_19, (tx a), v9_22, ot, s9_20, w9_21, d9_23) rfl ((Or.inr ⟨rfl, by rw [roF_b (L := L) c_41]; exact sk_e b_123⟩)) dX8_readOrder_153
                        · exact absurd c_136 (by decide)
                      · exact absurd c_126 (by decide)
                  · exact absurd (c_41.symm.trans c_106) (by decide)
                · exact absurd (c_41.symm.trans c_87) (by decide)
abbrev rm_X8_does : Room := { frames := 8, cells := 0, slots := 0, locals := 182 }
set_option maxHeartbeats 600000 in
set_option maxRecDepth 100000 in
theorem CX8_does (l : Launch) (D : va_G) (g : Nat → ClassId) (sz : Nat) (q : Nat → Nat) (pp : Nat → Int32) (dd : Nat → UInt64) (pa : Nat → Int32) (da : Nat → UInt64) (ps : Nat → Int32) (ds : Nat → UInt64) (tx rw mb : Nat → Int32) (st ln th co tt hh : Int32) (ma mh : UInt64) (ai le nu ot di wh sd : Int32) (ha : Int64) (cn : Nat) (f1 f2 f3 : Int32) (hc : pp 20 = nI cn) (hcn : cn ≤ 20) (his : ∀ k, k < cn → inS (azS pp k) (alS pp k)) (hpl : ∀ k, k < cn → plOK pp dd k) (hsp : 1 ≤ pp 0) (hsz : ∀ k, k < cn → szOK (plMA pp dd k) (plMH pp dd k)) (hl22 : ¬ pp 22 = 0 → ∃ k, k < cn ∧ pp 21 = nI k) (hlo : ¬ pp 22 = 0 → leOK pp dd (rgS pp (pp 21).toInt.toNat)) (h97 : le = 97 → ∃ k, k < 100 ∧ f1 = nI k) (hbb : ¬ le = 97 → ¬ le = 108 → ¬ le = 115 → ∃ x y, x < 2 ∧ y < 4 ∧ f1 = nI x ∧ f2 = nI y) (h98 : ¬ le = 97 → ¬ le = 108 → ¬ le = 115 → le = 98) (hf : (le = 97 → nu = f1) ∧ (le = 98 → sd = f1 ∧ wh = f2 ∧ nu = f3) ∧ (le = 115 → ot = f1 ∧ nu = f2) ∧ True) : Met l yX8_does (Cond.code yX8_does prog_10_method_69_code 1 (some .int) :: WA) rm_X8_does (va_Pc [.ref (q 0)] (Pre D g ([((q 0), .inr (8, [.ref (q 1), .ref (q 2), .ref (q 3), .ref (q 4), .ref (q 5), .ref (q 6), .int st, .ref (q 7), .int ln, .int th, .int co, .int tt, .int hh, .double ma, .double mh, .ref (q 8), .ref (q 9), .int ai, .int le, .int nu, .int ot, .int di, .int wh, .int sd, .long ha])), ((q 1), .inl (g 0, 127, .inl pp)), ((q 2), .inl (g 1, 52, .inr (.inr (.inr (.inl dd))))), ((q 3), .inl (g 0, 127, .inl pa)), ((q 4), .inl (g 1, 52, .inr (.inr (.inr (.inl da))))), ((q 5), .inl (g 0, 508, .inl ps)), ((q 6), .inl (g 1, 208, .inr (.inr (.inr (.inl ds))))), ((q 7), .inl (g 0, 100, .inl tx)), ((q 8), .inl (g 0, 5, .inl rw)), ((q 9), .inl (g 0, 5, .inl mb))]) sz)) (va_Qi (fun (r : Int32) (u : ((Nat → Int32) × (Nat → UInt64) × Int32 × Int32 × Int32 × UInt64 × UInt64)) => match u with | (p9, d9, c9, u1, u2, u3, u4) => (c9 = co ∧ doO pp dd le f1 f2 f3 = some (p9, d9)) ∨ (¬ c9 = 0 ∧ p9 = pp ∧ d9 = dd ∧ doO pp dd le f1 f2 f3 = none)) (fun (u : ((Nat → Int32) × (Nat → UInt64) × Int32 × Int32 × Int32 × UInt64 × UInt64)) t => Bp D g (va_A ([((q 0), .inr (8, [.ref (q 1), .ref (q 2), .ref (q 3), .ref (q 4), .ref (q 5), .ref (q 6), .int st, .ref (q 7), .int ln, .int th, .int co, .int tt, .int hh, .double ma, .double mh, .ref (q 8), .ref (q 9), .int ai, .int le, .int nu, .int ot, .int di, .int wh, .int sd, .long ha])), ((q 1), .inl (g 0, 127, .inl pp)), ((q 2), .inl (g 1, 52, .inr (.inr (.inr (.inl dd))))), ((q 3), .inl (g 0, 127, .inl pa)), ((q 4), .inl (g 1, 52, .inr (.inr (.inr (.inl da))))), ((q 5), .inl (g 0, 508, .inl ps)), ((q 6), .inl (g 1, 208, .inr (.inr (.inr (.inl ds))))), ((q 7), .inl (g 0, 100, .inl tx)), ((q 8), .inl (g 0, 5, .inl rw)), ((q 9), .inl (g 0, 5, .inl mb))]) sz) (match u with | (p9, d9, c9, u1, u2, u3, u4) => [((q 0), .inr (8, [.ref (q 1), .ref (q 2), .ref (q 3), .ref (q 4), .ref (q 5), .ref (q 6), .int st, .ref (q 7), .int ln, .int th, .int c9, .int u1, .int u2, .double u3, .double u4, .ref (q 8), .ref (q 9), .int ai, .int le, .int nu, .int ot, .int di, .int wh, .int sd, .long ha])), ((q 1), .inl (g 0, 127, .inl p9)), ((q 2), .inl (g 1, 52, .inr (.inr (.inr (.inl d9))))), ((q 3), .inl (g 0, 127, .inl pa)), ((q 4), .inl (g 1, 52, .inr (.inr (.inr (.inl da))))), ((q 5), .inl (g 0, 508, .inl ps)), ((q 6), .inl (g 1, 208, .inr (.inr (.inr (.inl ds))))), ((q 7), .inl (g 0, 100, .inl tx)), ((q 8), .inl (g 0, 5, .inl rw)), ((q 9), .inl (g 0, 5, .inl mb))]) t) (va_A ([((q 0), .inr (8, [.ref (q 1), .ref (q 2), .ref (q 3), .ref (q 4), .ref (q 5), .ref (q 6), .int st, .ref (q 7), .int ln, .int th, .int co, .int tt, .int hh, .double ma, .double mh, .ref (q 8), .ref (q 9), .int ai, .int le, .int nu, .int ot, .int di, .int wh, .int sd, .long ha])), ((q 1), .inl (g 0, 127, .inl pp)), ((q 2), .inl (g 1, 52, .inr (.inr (.inr (.inl dd))))), ((q 3), .inl (g 0, 127, .inl pa)), ((q 4), .inl (g 1, 52, .inr (.inr (.inr (.inl da))))), ((q 5), .inl (g 0, 508, .inl ps)), ((q 6), .inl (g 1, 208, .inr (.inr (.inr (.inl ds))))), ((q 7), .inl (g 0, 100, .inl tx)), ((q 8), .inl (g 0, 5, .inl rw)), ((q 9), .inl (g 0, 5, .inl mb))]) sz)) 0 0 (va_A ([((q 0), .inr (8, [.ref (q 1), .ref (q 2), .ref (q 3), .ref (q 4), .ref (q 5), .ref (q 6), .int st, .ref (q 7), .int ln, .int th, .int co, .int tt, .int hh, .double ma, .double mh, .ref (q 8), .ref (q 9), .int ai, .int le, .int nu, .int ot, .int di, .int wh, .int sd, .long ha])), ((q 1), .inl (g 0, 127, .inl pp)), ((q 2), .inl (g 1, 52, .inr (.inr (.inr (.inl dd))))), ((q 3), .inl (g 0, 127, .inl pa)), ((q 4), .inl (g 1, 52, .inr (.inr (.inr (.inl da))))), ((q 5), .inl (g 0, 508, .inl ps)), ((q 6), .inl (g 1, 208, .inr (.inr (.inr (.inl ds))))), ((q 7), .inl (g 0, 100, .inl tx)), ((q 8), .inl (g 0, 5, .inl rw)), ((q 9), .inl (g 0, 5, .inl mb))]) sz) := by
  refine g_met (av := [.ref (q 0)]) (QcA := fun A => va_Qi (fun (r : Int32) (u : ((Nat → Int32) × (Nat → UInt64) × Int32 × Int32 × Int32 × UInt64 × UInt64)) => match u with | (p9, d9, c9, u1, u2, u3, u4) => (c9 = co ∧ doO pp dd le f1 f2 f3 = some (p9, d9)) ∨ (¬ c9 = 0 ∧ p9 = pp ∧ d9 = dd ∧ doO pp dd le f1 f2 f3 = none)) (fun (u : ((Nat → Int32) × (Nat → UInt64) × Int32 × Int32 × Int32 × UInt64 × UInt64)) t => Bp D g A (match u with | (p9, d9, c9, u1, u2, u3, u4) => [((q 0), .inr (8, [.ref (q 1), .ref (q 2), .ref (q 3), .ref (q 4), .ref (q 5), .ref (q 6), .int st, .ref (q 7), .int ln, .int th, .int c9, .int u1, .int u2, .double u3, .double u4, .ref (q 8), .ref (q 9), .int ai, .int le, .int nu, .int ot, .int di, .int wh, .int sd, .long ha])), ((q 1), .inl (g 0, 127, .inl p9)), ((q 2), .inl (g 1, 52, .inr (.inr (.inr (.inl d9))))), ((q 3), .inl (g 0, 127, .inl pa)), ((q 4), .inl (g 1, 52, .inr (.inr (.inr (.inl da))))), ((q 5), .inl (g 0, 508, .inl ps)), ((q 6), .inl (g 1, 208, .inr (.inr (.inr (.inl ds))))), ((q 7), .inl (g 0, 100, .inl tx)), ((q 8), .inl (g 0, 5, .inl rw)), ((q 9), .inl (g 0, 5, .inl mb))]) t) A) rfl (Nat.le_of_ble_eq_true rfl) ?_
  intro p e s m below meth c A Q ls E M hP hD hS hA hQ hl
  have hx := E.1.1
  have hb := E.1.2.1
  have hl : lv_has ls 1 [(0, .ref (q 0))] := hl
  refine lv_aload_n hx hb dX8_does_0 rfl (lv_at hl 0 rfl) ?_
  refine gf_X8_228 E hP 0 rfl rfl dX8_does_1 ?_
  by_cases w_4_97 : le = 97
  · refine lv_lookup (off := 49) (tgt := 53) hx hb dX8_does_4 (by decide) (by rw [w_4_97]; rfl) (by decide) ?_
    obtain ⟨k, hk, ek⟩ := h97 w_4_97
    have ef := (hf.1 w_4_97).trans ek
    subst ef; subst ek
    refine lv_aload_n hx hb dX8_does_53 rfl (lv_at hl 0 rfl) ?_
    refine lv_aload_n hx hb dX8_does_54 rfl (lv_at hl 0 rfl) ?_
    refine gf_X8_204 E hP 0 rfl rfl dX8_does_55 ?_
    refine cl_X8_152 (As := [.int (nI k)]) (rest := []) (b := (q 0)) (wc := [((q 0), .inr (8, [.ref (q 1), .ref (q 2), .ref (q 3), .ref (q 4), .ref (q 5), .ref (q 6), .int st, .ref (q 7), .int ln, .int th, .int co, .int tt, .int hh, .double ma, .double mh, .ref (q 8), .ref (q 9), .int ai, .int le, .int (nI k), .int ot, .int di, .int wh, .int sd, .long ha])), ((q 1), .inl (g 0, 127, .inl pp)), ((q 2), .inl (g 1, 52, .inr (.inr (.inr (.inl dd))))), ((q 3), .inl (g 0, 127, .inl pa)), ((q 4), .inl (g 1, 52, .inr (.inr (.inr (.inl da))))), ((q 5), .inl (g 0, 508, .inl ps)), ((q 6), .inl (g 1, 208, .inr (.inr (.inr (.inl ds))))), ((q 7), .inl (g 0, 100, .inl tx)), ((q 8), .inl (g 0, 5, .inl rw)), ((q 9), .inl (g 0, 5, .inl mb))]) (wr := []) (wn := (fun (u : ((Nat → Int32) × (Nat → UInt64) × Int32 × Int32 × Int32 × UInt64 × UInt64)) => match u with | (p9_1, d9_2, c9_3, u1_4, u2_5, u3_6, u4_7) => [((q 0), .inr (8, [.ref (q 1), .ref (q 2), .ref (q 3), .ref (q 4), .ref (q 5), .ref (q 6), .int st, .ref (q 7), .int ln, .int th, .int c9_3, .int u1_4, .int u2_5, .double u3_6, .double u4_7, .ref (q 8), .ref (q 9), .int ai, .int le, .int (nI k), .int ot, .int di, .int wh, .int sd, .long ha])), ((q 1), .inl (g 0, 127, .inl p9_1)), ((q 2), .inl (g 1, 52, .inr (.inr (.inr (.inl d9_2))))), ((q 3), .inl (g 0, 127, .inl pa)), ((q 4), .inl (g 1, 52, .inr (.inr (.inr (.inl da))))), ((q 5), .inl (g 0, 508, .inl ps)), ((q 6), .inl (g 1, 208, .inr (.inr (.inr (.inl ds))))), ((q 7), .inl (g 0, 100, .inl tx)), ((q 8), .inl (g 0, 5, .inl rw)), ((q 9), .inl (g 0, 5, .inl mb))])) (isC := [0, 1, 2, 3, 4, 5, 6, 7, 8, 9]) (isR := []) (isP := [0, 1, 2, 3, 4, 5, 6, 7, 8, 9]) E hS hA hP hD ⟨rfl, rfl, rfl, rfl, by decide, fun _ => rfl, rfl⟩ (CX8_doAim l D g _ q pp dd pa da ps ds tx rw mb st ln th co tt hh ma mh ai le (nI k) ot di wh sd ha cn (nI k) (by first | assumption | omega) (by first | assumption | omega) (by first | assumption | omega) (by first | assumption | omega) (by first | assumption | omega) (by first | assumption | omega)) ⟨Nat.le_of_ble_eq_true rfl, Nat.le_of_ble_eq_true rfl⟩ rfl rfl 0 rfl rfl hl.1 rfl (Nat.le_of_ble_eq_true rfl) ⟨Nat.le_of_ble_eq_true rfl, Nat.le_of_ble_eq_true rfl⟩ dX8_does_58 (fun r u H locs hw hP hD hS => ?_)
    obtain ⟨p9_1, d9_2, c9_3, u1_4, u2_5, u3_6, u4_7⟩ := u
    dsimp only at hw hP hD
    have hP : va_P D vwCl ([((q 0), .inr (8, [.ref (q 1), .ref (q 2), .ref (q 3), .ref (q 4), .ref (q 5), .ref (q 6), .int st, .ref (q 7), .int ln, .int th, .int c9_3, .int u1_4, .int u2_5, .double u3_6, .double u4_7, .ref (q 8), .ref (q 9), .int ai, .int le, .int (nI k), .int ot, .int di, .int wh, .int sd, .long ha])), ((q 1), .inl (g 0, 127, .inl p9_1)), ((q 2), .inl (g 1, 52, .inr (.inr (.inr (.inl d9_2))))), ((q 3), .inl (g 0, 127, .inl pa)), ((q 4), .inl (g 1, 52, .inr (.inr (.inr (.inl da))))), ((q 5), .inl (g 0, 508, .inl ps)), ((q 6), .inl (g 1, 208, .inr (.inr (.inr (.inl ds))))), ((q 7), .inl (g 0, 100, .inl tx)), ((q 8), .inl (g 0, 5, .inl rw)), ((q 9), .inl (g 0, 5, .inl mb))]) H := hP
    have hD : va_D A ([((q 0), .inr (8, [.ref (q 1), .ref (q 2), .ref (q 3), .ref (q 4), .ref (q 5), .ref (q 6), .int st, .ref (q 7), .int ln, .int th, .int c9_3, .int u1_4, .int u2_5, .double u3_6, .double u4_7, .ref (q 8), .ref (q 9), .int ai, .int le, .int (nI k), .int ot, .int di, .int wh, .int sd, .long ha])), ((q 1), .inl (g 0, 127, .inl p9_1)), ((q 2), .inl (g 1, 52, .inr (.inr (.inr (.inl d9_2))))), ((q 3), .inl (g 0, 127, .inl pa)), ((q 4), .inl (g 1, 52, .inr (.inr (.inr (.inl da))))), ((q 5), .inl (g 0, 508, .inl ps)), ((q 6), .inl (g 1, 208, .inr (.inr (.inr (.inl ds))))), ((q 7), .inl (g 0, 100, .inl tx)), ((q 8), .inl (g 0, 5, .inl rw)), ((q 9), .inl (g 0, 5, .inl mb))]) := hD
    obtain ⟨r8, er8⟩ : ∃ z, z = r := ⟨_, rfl⟩
    rw [← er8] at hw ⊢; have hw9 := hw
    rcases hw9 with ⟨b_58, rfl, q_58_p9, q_58_d9, rfl⟩ | ⟨b_58, rfl, q_58_p9, q_58_d9, rfl⟩ | ⟨b_58, rfl, rfl, rfl, q_58_c9⟩
    · skip
      replace q_58_p9 := Eq.symm q_58_p9
      subst q_58_p9
      replace q_58_d9 := Eq.symm q_58_d9
      subst q_58_d9
      exact g_iret hQ E M rfl hS hP hD (pp, dd, 1, u1_4, u2_5, u3_6, u4_7) rfl ((Or.inr ⟨by decide, rfl, rfl, (doO_n w_4_97 hc hk hcn b_58)⟩)) dX8_does_61
    · skip
      replace q_58_p9 := Eq.symm q_58_p9
      subst q_58_p9
      replace q_58_d9 := Eq.symm q_58_d9
      subst q_58_d9
      exact g_iret hQ E M rfl hS hP hD (pp, dd, 2, u1_4, u2_5, u3_6, u4_7) rfl ((Or.inr ⟨by decide, rfl, rfl, (doO_a1 (cn := cn) w_4_97 hk (by have h := b_58.2; rw [nI_tn (by omega)] at h; exact h))⟩)) dX8_does_61
    · skip
      replace q_58_c9 := Eq.symm q_58_c9
      subst q_58_c9
      exact g_iret hQ E M rfl hS hP hD ((goP pp dd (nI k).toInt.toNat), (goD pp dd (nI k).toInt.toNat), co, u1_4, u2_5, u3_6, u4_7) rfl ((Or.inl ⟨rfl, (by rw [nI_tn (by omega)]; exact doO_a2 w_4_97 hk hc (isS_nle b_58.1) (by have h := b_58.2.1; rw [nI_tn (by omega)] at h; exact h))⟩)) dX8_does_61
  by_cases w_4_108 : le = 108
  · refine lv_lookup (off := 58) (tgt := 62) hx hb dX8_does_4 (by decide) (by rw [w_4_108]; rfl) (by decide) ?_
    refine lv_aload_n hx hb dX8_does_62 rfl (lv_at hl 0 rfl) ?_
    refine cl_X8_155 (As := []) (rest := []) (b := (q 0)) (wc := [((q 0), .inr (8, [.ref (q 1), .ref (q 2), .ref (q 3), .ref (q 4), .ref (q 5), .ref (q 6), .int st, .ref (q 7), .int ln, .int th, .int co, .int tt, .int hh, .double ma, .double mh, .ref (q 8), .ref (q 9), .int ai, .int le, .int nu, .int ot, .int di, .int wh, .int sd, .long ha])), ((q 1), .inl (g 0, 127, .inl pp)), ((q 2), .inl (g 1, 52, .inr (.inr (.inr (.inl dd))))), ((q 3), .inl (g 0, 127, .inl pa)), ((q 4), .inl (g 1, 52, .inr (.inr (.inr (.inl da))))), ((q 5), .inl (g 0, 508, .inl ps)), ((q 6), .inl (g 1, 208, .inr (.inr (.inr (.inl ds))))), ((q 7), .inl (g 0, 100, .inl tx)), ((q 8), .inl (g 0, 5, .inl rw)), ((q 9), .inl (g 0, 5, .inl mb))]) (wr := []) (wn := (fun (u : ((Nat → Int32) × (Nat → UInt64) × Int32)) => match u with | (p9_10, d9_11, c9_12) => [((q 0), .inr (8, [.ref (q 1), .ref (q 2), .ref (q 3), .ref (q 4), .ref (q 5), .ref (q 6), .int st, .ref (q 7), .int ln, .int th, .int c9_12, .int tt, .int hh, .double ma, .double mh, .ref (q 8), .ref (q 9), .int ai, .int le, .int nu, .int ot, .int di, .int wh, .int sd, .long ha])), ((q 1), .inl (g 0, 127, .inl p9_10)), ((q 2), .inl (g 1, 52, .inr (.inr (.inr (.inl d9_11))))), ((q 3), .inl (g 0, 127, .inl pa)), ((q 4), .inl (g 1, 52, .inr (.inr (.inr (.inl da))))), ((q 5), .inl (g 0, 508, .inl ps)), ((q 6), .inl (g 1, 208, .inr (.inr (.inr (.inl ds))))), ((q 7), .inl (g 0, 100, .inl tx)), ((q 8), .inl (g 0, 5, .inl rw)), ((q 9), .inl (g 0, 5, .inl mb))])) (isC := [0, 1, 2, 3, 4, 5, 6, 7, 8, 9]) (isR := []) (isP := [0, 1, 2, 3, 4, 5, 6, 7, 8, 9]) E hS hA hP hD ⟨rfl, rfl, rfl, rfl, by decide, fun _ => rfl, rfl⟩ (CX8_doLearn l D g _ q pp dd pa da ps ds tx rw mb st ln th co tt hh ma mh ai le nu ot di wh sd ha cn (by first | assumption | omega) (by first | assumption | omega) (by first | assumption | omega) (by first | assumption | omega)) ⟨Nat.le_of_ble_eq_true rfl, Nat.le_of_ble_eq_true rfl⟩ rfl rfl 0 rfl rfl hl.1 rfl (Nat.le_of_ble_eq_true rfl) ⟨Nat.le_of_ble_eq_true rfl, Nat.le_of_ble_eq_true rfl⟩ dX8_does_63 (fun r u H locs hw hP hD hS => ?_)
    obtain ⟨p9_10, d9_11, c9_12⟩ := u
    dsimp only at hw hP hD
    have hP : va_P D vwCl ([((q 0), .inr (8, [.ref (q 1), .ref (q 2), .ref (q 3), .ref (q 4), .ref (q 5), .ref (q 6), .int st, .ref (q 7), .int ln, .int th, .int c9_12, .int tt, .int hh, .double ma, .double mh, .ref (q 8), .ref (q 9), .int ai, .int le, .int nu, .int ot, .int di, .int wh, .int sd, .long ha])), ((q 1), .inl (g 0, 127, .inl p9_10)), ((q 2), .inl (g 1, 52, .inr (.inr (.inr (.inl d9_11))))), ((q 3), .inl (g 0, 127, .inl pa)), ((q 4), .inl (g 1, 52, .inr (.inr (.inr (.inl da))))), ((q 5), .inl (g 0, 508, .inl ps)), ((q 6), .inl (g 1, 208, .inr (.inr (.inr (.inl ds))))), ((q 7), .inl (g 0, 100, .inl tx)), ((q 8), .inl (g 0, 5, .inl rw)), ((q 9), .inl (g 0, 5, .inl mb))]) H := hP
    have hD : va_D A ([((q 0), .inr (8, [.ref (q 1), .ref (q 2), .ref (q 3), .ref (q 4), .ref (q 5), .ref (q 6), .int st, .ref (q 7), .int ln, .int th, .int c9_12, .int tt, .int hh, .double ma, .double mh, .ref (q 8), .ref (q 9), .int ai, .int le, .int nu, .int ot, .int di, .int wh, .int sd, .long ha])), ((q 1), .inl (g 0, 127, .inl p9_10)), ((q 2), .inl (g 1, 52, .inr (.inr (.inr (.inl d9_11))))), ((q 3), .inl (g 0, 127, .inl pa)), ((q 4), .inl (g 1, 52, .inr (.inr (.inr (.inl da))))), ((q 5), .inl (g 0, 508, .inl ps)), ((q 6), .inl (g 1, 208, .inr (.inr (.inr (.inl ds))))), ((q 7), .inl (g 0, 100, .inl tx)), ((q 8), .inl (g 0, 5, .inl rw)), ((q 9), .inl (g 0, 5, .inl mb))]) := hD
    obtain ⟨r13, er13⟩ : ∃ z, z = r := ⟨_, rfl⟩
    rw [← er13] at hw ⊢; have hw14 := hw
    rcases hw14 with ⟨b_63, rfl, q_63_p9, q_63_d9, rfl⟩ | ⟨b_63, rfl, rfl, rfl, q_63_c9⟩
    · skip
      replace q_63_p9 := Eq.symm q_63_p9
      subst q_63_p9
      replace q_63_d9 := Eq.symm q_63_d9
      subst q_63_d9
      exact g_iret hQ E M rfl hS hP hD (pp, dd, 1, tt, hh, ma, mh) rfl ((Or.inr ⟨by decide, rfl, rfl, (doO_l0 w_4_108 b_63)⟩)) dX8_does_66
    · skip
      replace q_63_c9 := Eq.symm q_63_c9
      subst q_63_c9
      exact g_iret hQ E M rfl hS hP hD ((leP pp (rgS pp (pp 21).toInt.toNat)), (leD pp dd (rgS pp (pp 21).toInt.toNat)), co, tt, hh, ma, mh) rfl ((Or.inl ⟨rfl, (doO_l1 w_4_108 b_63)⟩)) dX8_does_66
  by_cases w_4_115 : le = 115
  · refine lv_lookup (off := 36) (tgt := 40) hx hb dX8_does_4 (by decide) (by rw [w_4_115]; rfl) (by decide) ?_
    refine lv_aload_n hx hb dX8_does_40 rfl (lv_at hl 0 rfl) ?_
    refine lv_aload_n hx hb dX8_does_41 rfl (lv_at hl 0 rfl) ?_
    refine gf_X8_216 E hP 0 rfl rfl dX8_does_42 ?_
    refine lv_aload_n hx hb dX8_does_45 rfl (lv_at hl 0 rfl) ?_
    refine gf_X8_204 E hP 0 rfl rfl dX8_does_46 ?_
    refine cl_X8_149 (As := [.int ot, .int nu]) (rest := []) (b := (q 0)) (wc := [((q 0), .inr (8, [.ref (q 1), .ref (q 2), .ref (q 3), .ref (q 4), .ref (q 5), .ref (q 6), .int st, .ref (q 7), .int ln, .int th, .int co, .int tt, .int hh, .double ma, .double mh, .ref (q 8), .ref (q 9), .int ai, .int le, .int nu, .int ot, .int di, .int wh, .int sd, .long ha])), ((q 1), .inl (g 0, 127, .inl pp)), ((q 2), .inl (g 1, 52, .inr (.inr (.inr (.inl dd))))), ((q 3), .inl (g 0, 127, .inl pa)), ((q 4), .inl (g 1, 52, .inr (.inr (.inr (.inl da))))), ((q 5), .inl (g 0, 508, .inl ps)), ((q 6), .inl (g 1, 208, .inr (.inr (.inr (.inl ds))))), ((q 7), .inl (g 0, 100, .inl tx)), ((q 8), .inl (g 0, 5, .inl rw)), ((q 9), .inl (g 0, 5, .inl mb))]) (wr := []) (wn := (fun (u : ((Nat → Int32) × Int32)) => match u with | (p9_15, c9_16) => [((q 0), .inr (8, [.ref (q 1), .ref (q 2), .ref (q 3), .ref (q 4), .ref (q 5), .ref (q 6), .int st, .ref (q 7), .int ln, .int th, .int c9_16, .int tt, .int hh, .double ma, .double mh, .ref (q 8), .ref (q 9), .int ai, .int le, .int nu, .int ot, .int di, .int wh, .int sd, .long ha])), ((q 1), .inl (g 0, 127, .inl p9_15)), ((q 2), .inl (g 1, 52, .inr (.inr (.inr (.inl dd))))), ((q 3), .inl (g 0, 127, .inl pa)), ((q 4), .inl (g 1, 52, .inr (.inr (.inr (.inl da))))), ((q 5), .inl (g 0, 508, .inl ps)), ((q 6), .inl (g 1, 208, .inr (.inr (.inr (.inl ds))))), ((q 7), .inl (g 0, 100, .inl tx)), ((q 8), .inl (g 0, 5, .inl rw)), ((q 9), .inl (g 0, 5, .inl mb))])) (isC := [0, 1, 2, 3, 4, 5, 6, 7, 8, 9]) (isR := []) (isP := [0, 1, 2, 3, 4, 5, 6, 7, 8, 9]) E hS hA hP hD ⟨rfl, rfl, rfl, rfl, by decide, fun _ => rfl, rfl⟩ (CX8_doAdd l D g _ q pp dd pa da ps ds tx rw mb st ln th co tt hh ma mh ai le nu ot di wh sd ha cn ot nu (by first | assumption | omega) (by first | assumption | omega)) ⟨Nat.le_of_ble_eq_true rfl, Nat.le_of_ble_eq_true rfl⟩ rfl rfl 0 rfl rfl hl.1 rfl (Nat.le_of_ble_eq_true rfl) ⟨Nat.le_of_ble_eq_true rfl, Nat.le_of_ble_eq_true rfl⟩ dX8_does_49 (fun r u H locs hw hP hD hS => ?_)
    obtain ⟨p9_15, c9_16⟩ := u
    dsimp only at hw hP hD
    have hP : va_P D vwCl ([((q 0), .inr (8, [.ref (q 1), .ref (q 2), .ref (q 3), .ref (q 4), .ref (q 5), .ref (q 6), .int st, .ref (q 7), .int ln, .int th, .int c9_16, .int tt, .int hh, .double ma, .double mh, .ref (q 8), .ref (q 9), .int ai, .int le, .int nu, .int ot, .int di, .int wh, .int sd, .long ha])), ((q 1), .inl (g 0, 127, .inl p9_15)), ((q 2), .inl (g 1, 52, .inr (.inr (.inr (.inl dd))))), ((q 3), .inl (g 0, 127, .inl pa)), ((q 4), .inl (g 1, 52, .inr (.inr (.inr (.inl da))))), ((q 5), .inl (g 0, 508, .inl ps)), ((q 6), .inl (g 1, 208, .inr (.inr (.inr (.inl ds))))), ((q 7), .inl (g 0, 100, .inl tx)), ((q 8), .inl (g 0, 5, .inl rw)), ((q 9), .inl (g 0, 5, .inl mb))]) H := hP
    have hD : va_D A ([((q 0), .inr (8, [.ref (q 1), .ref (q 2), .ref (q 3), .ref (q 4), .ref (q 5), .ref (q 6), .int st, .ref (q 7), .int ln, .int th, .int c9_16, .int tt, .int hh, .double ma, .double mh, .ref (q 8), .ref (q 9), .int ai, .int le, .int nu, .int ot, .int di, .int wh, .int sd, .long ha])), ((q 1), .inl (g 0, 127, .inl p9_15)), ((q 2), .inl (g 1, 52, .inr (.inr (.inr (.inl dd))))), ((q 3), .inl (g 0, 127, .inl pa)), ((q 4), .inl (g 1, 52, .inr (.inr (.inr (.inl da))))), ((q 5), .inl (g 0, 508, .inl ps)), ((q 6), .inl (g 1, 208, .inr (.inr (.inr (.inl ds))))), ((q 7), .inl (g 0, 100, .inl tx)), ((q 8), .inl (g 0, 5, .inl rw)), ((q 9), .inl (g 0, 5, .inl mb))]) := hD
    obtain ⟨r17, er17⟩ : ∃ z, z = r := ⟨_, rfl⟩
    rw [← er17] at hw ⊢; have hw18 := hw
    rcases hw18 with ⟨b_49, rfl, q_49_p9, rfl⟩ | ⟨b_49, rfl, rfl, q_49_c9⟩
    · skip
      replace q_49_p9 := Eq.symm q_49_p9
      subst q_49_p9
      exact g_iret hQ E M rfl hS hP hD (pp, dd, 2, tt, hh, ma, mh) rfl ((Or.inr ⟨by decide, rfl, rfl, doO_s0 w_4_115 hc (by rw [b_49]; decide)⟩)) dX8_does_52
    · skip
      replace q_49_c9 := Eq.symm q_49_c9
      subst q_49_c9
      exact g_iret hQ E M rfl hS hP hD ((adP pp cn ot nu), dd, co, tt, hh, ma, mh) rfl ((Or.inl ⟨rfl, (by rw [← (hf.2.2.1 w_4_115).1, ← (hf.2.2.1 w_4_115).2]; exact doO_s1 w_4_115 hc hcn ((nI_ltI (by omega) (by decide)).mpr b_49))⟩)) dX8_does_52
  refine lv_lookup (off := 63) (tgt := 67) hx hb dX8_does_4 (by decide) ((lv_osw w_4_97 rfl).trans ((lv_osw w_4_108 rfl).trans ((lv_osw w_4_115 rfl).trans rfl))) (by decide) ?_
  obtain ⟨x, y, hx2, hy4, ex, ey⟩ := hbb w_4_97 w_4_108 w_4_115
  obtain ⟨e1, e2, e3⟩ := hf.2.1 (h98 w_4_97 w_4_108 w_4_115)
  have e4 := e1.trans ex; have e5 := e2.trans ey
  subst e4; subst e5; subst e3; subst ex; subst ey
  refine lv_aload_n hx hb dX8_does_67 rfl (lv_at hl 0 rfl) ?_
  refine lv_aload_n hx hb dX8_does_68 rfl (lv_at hl 0 rfl) ?_
  refine gf_X8_222 E hP 0 rfl rfl dX8_does_69 ?_
  refine lv_aload_n hx hb dX8_does_72 rfl (lv_at hl 0 rfl) ?_
  refine gf_X8_225 E hP 0 rfl rfl dX8_does_73 ?_
  refine lv_aload_n hx hb dX8_does_76 rfl (lv_at hl 0 rfl) ?_
  refine gf_X8_204 E hP 0 rfl rfl dX8_does_77 ?_
  refine cl_X8_145 (As := [.int (nI x), .int (nI y), .int nu]) (rest := []) (b := (q 0)) (wc := [((q 0), .inr (8, [.ref (q 1), .ref (q 2), .ref (q 3), .ref (q 4), .ref (q 5), .ref (q 6), .int st, .ref (q 7), .int ln, .int th, .int co, .int tt, .int hh, .double ma, .double mh, .ref (q 8), .ref (q 9), .int ai, .int le, .int nu, .int ot, .int di, .int (nI y), .int (nI x), .long ha])), ((q 1), .inl (g 0, 127, .inl pp)), ((q 2), .inl (g 1, 52, .inr (.inr (.inr (.inl dd))))), ((q 3), .inl (g 0, 127, .inl pa)), ((q 4), .inl (g 1, 52, .inr (.inr (.inr (.inl da))))), ((q 5), .inl (g 0, 508, .inl ps)), ((q 6), .inl (g 1, 208, .inr (.inr (.inr (.inl ds))))), ((q 7), .inl (g 0, 100, .inl tx)), ((q 8), .inl (g 0, 5, .inl rw)), ((q 9), .inl (g 0, 5, .inl mb))]) (wr := []) (wn := (fun _ => [((q 0), .inr (8, [.ref (q 1), .ref (q 2), .ref (q 3), .ref (q 4), .ref (q 5), .ref (q 6), .int st, .ref (q 7), .int ln, .int th, .int co, .int tt, .int hh, .double ma, .double mh, .ref (q 8), .ref (q 9), .int ai, .int le, .int nu, .int ot, .int di, .int (nI y), .int (nI x), .long ha])), ((q 1), .inl (g 0, 127, .inl (bdP pp (4 * x + y) nu))), ((q 2), .inl (g 1, 52, .inr (.inr (.inr (.inl dd))))), ((q 3), .inl (g 0, 127, .inl pa)), ((q 4), .inl (g 1, 52, .inr (.inr (.inr (.inl da))))), ((q 5), .inl (g 0, 508, .inl ps)), ((q 6), .inl (g 1, 208, .inr (.inr (.inr (.inl ds))))), ((q 7), .inl (g 0, 100, .inl tx)), ((q 8), .inl (g 0, 5, .inl rw)), ((q 9), .inl (g 0, 5, .inl mb))])) (isC := [0, 1, 2, 3, 4, 5, 6, 7, 8, 9]) (isR := []) (isP := [0, 1, 2, 3, 4, 5, 6, 7, 8, 9]) E hS hA hP hD ⟨rfl, rfl, rfl, rfl, by decide, fun _ => rfl, rfl⟩ (CX8_doBend l D g _ q pp dd pa da ps ds tx rw mb st ln th co tt hh ma mh ai le nu ot di (nI y) (nI x) ha x y nu hx2 hy4) ⟨Nat.le_of_ble_eq_true rfl, Nat.le_of_ble_eq_true rfl⟩ rfl rfl 0 rfl rfl hl.1 rfl (Nat.le_of_ble_eq_true rfl) ⟨Nat.le_of_ble_eq_true rfl, Nat.le_of_ble_eq_true rfl⟩ dX8_does_80 (fun r u H locs hw hP hD hS => ?_)
  have hP : va_P D vwCl ([((q 0), .inr (8, [.ref (q 1), .ref (q 2), .ref (q 3), .ref (q 4), .ref (q 5), .ref (q 6), .int st, .ref (q 7), .int ln, .int th, .int co, .int tt, .int hh, .double ma, .double mh, .ref (q 8), .ref (q 9), .int ai, .int le, .int nu, .int ot, .int di, .int (nI y), .int (nI x), .long ha])), ((q 1), .inl (g 0, 127, .inl (bdP pp (4 * x + y) nu))), ((q 2), .inl (g 1, 52, .inr (.inr (.inr (.inl dd))))), ((q 3), .inl (g 0, 127, .inl pa)), ((q 4), .inl (g 1, 52, .inr (.inr (.inr (.inl da))))), ((q 5), .inl (g 0, 508, .inl ps)), ((q 6), .inl (g 1, 208, .inr (.inr (.inr (.inl ds))))), ((q 7), .inl (g 0, 100, .inl tx)), ((q 8), .inl (g 0, 5, .inl rw)), ((q 9), .inl (g 0, 5, .inl mb))]) H := hP
  have hD : va_D A ([((q 0), .inr (8, [.ref (q 1), .ref (q 2), .ref (q 3), .ref (q 4), .ref (q 5), .ref (q 6), .int st, .ref (q 7), .int ln, .int th, .int co, .int tt, .int hh, .double ma, .double mh, .ref (q 8), .ref (q 9), .int ai, .int le, .int nu, .int ot, .int di, .int (nI y), .int (nI x), .long ha])), ((q 1), .inl (g 0, 127, .inl (bdP pp (4 * x + y) nu))), ((q 2), .inl (g 1, 52, .inr (.inr (.inr (.inl dd))))), ((q 3), .inl (g 0, 127, .inl pa)), ((q 4), .inl (g 1, 52, .inr (.inr (.inr (.inl da))))), ((q 5), .inl (g 0, 508, .inl ps)), ((q 6), .inl (g 1, 208, .inr (.inr (.inr (.inl ds))))), ((q 7), .inl (g 0, 100, .inl tx)), ((q 8), .inl (g 0, 5, .inl rw)), ((q 9), .inl (g 0, 5, .inl mb))]) := hD
  subst hw
  exact g_iret hQ E M rfl hS hP hD ((bdP pp (4 * x + y) nu), dd, co, tt, hh, ma, mh) rfl ((Or.inl ⟨rfl, (doO_b w_4_97 w_4_108 w_4_115 hx2 hy4)⟩)) dX8_does_83
