theorem tab_25 {j : Nat} (h : j < 25) : j = 0 ∨ j = 1 ∨ j = 2 ∨ j = 3 ∨ j = 4 ∨ j = 5 ∨ j = 6 ∨ j = 7 ∨ j = 8 ∨ j = 9 ∨ j = 10 ∨ j = 11 ∨ j = 12 ∨ j = 13 ∨ j = 14 ∨ j = 15 ∨ j = 16 ∨ j = 17 ∨ j = 18 ∨ j = 19 ∨ j = 20 ∨ j = 21 ∨ j = 22 ∨ j = 23 ∨ j = 24 := by omega
theorem tab_out {x : Int32} (h : ∀ j, j < 25 → ¬ x = nI j) : x.toInt < 0 ∨ 24 < x.toInt := by
  by_cases c : x.toInt < 0
  · exact Or.inl c
  · refine Or.inr ?_
    refine Int.lt_of_not_ge fun q => h x.toInt.toNat (by omega) (nI_of_toInt (by omega))
theorem l4_le {k N : Nat} (h : ¬ nI N - 4 < nI (4 * k)) (hN : N ≤ 2048) (hk : k ≤ 512) : 4 * k + 4 ≤ N := by
  have k4 : (4 : Int32).toInt = 4 := rfl
  rw [Int32.lt_iff_toInt_lt, Jvm.Kit.i32_sub (by rw [k4, nI_toInt (by omega)]; omega) (by rw [k4, nI_toInt (by omega)]; omega), k4, nI_toInt (by omega), nI_toInt (by omega)] at h
  omega
set_option maxHeartbeats 9000000 in
set_option maxRecDepth 100000 in
theorem law_head {p : Program} {l : Launch} {e : Env} {s : State} {m : MethodId} {below : List Frame} {meth : Method} {c : Code} {A : Nat → Prop} {Q : State → Prop} {D : va_G} {g : Nat → ClassId} {bs NL : Nat} {xs : Nat → Int32} {J : Nat → (Nat → Int32) → (Nat → UInt64) → Prop} (hl0 : l.stackTraces = false) (JH : JOK J) (hZ : SF A s s.heap) (hX : XE A s s.heap) (hNC : NC s) (E : Ev p s m #[.ref bs] c cL_law 9 RL D g) (hA : ∀ q, s.heap.size ≤ q → A q) (hXs : va_X bs NL xs s s.heap) (hbl : bs < s.heap.size) (hbA : ¬ A bs) (hNL : NL ≤ 2048) (hEnd : ∀ (k : Nat) (H : Heap) (locs : List Loc) (ls : Array Slot), k ≤ 512 → va_S A s.heap H locs → W p l e room_1 s m #[.ref bs] below meth c H locs (117 + k) (2644 + 6 * k) Q (F0 m 1491 ls [])) (b o2 o4 o5 o7 ou ow : Nat) (q zq tq qm : Nat → Nat) {k : Nat} (hk : k ≤ 512) (hK : 4 * k + 4 ≤ NL → LHK p l e s m below meth c A Q D g bs J b o2 o4 o5 o7 ou ow q zq tq qm (k + 1)) : LHK p l e s m below meth c A Q D g bs J b o2 o4 o5 o7 ou ow q zq tq qm k := by
  intro n cn rg L zc zr pp zp dd zd jj nj zj zn nd ze yq yp yd yj yn ye yc yr i0 e0 kd f1 f2 f3 tx wj wd zs bt m1 m2 m3 tod tbe aj ad pa da ps ds rw mb th co tt hh ma mh ai le nu ot di wh sd ha of og H locs ls hI hP hD hS hl
  have hx := E.1.1
  have hb := E.1.2.1
  refine lv_iload hx hb dL_law_28 (lv_at hl 5 rfl) ?_
  refine lv_aload_n hx hb dL_law_30 rfl (lv_at hl 0 rfl) ?_
  refine va_slen E.1.1 E.1.2.1 hXs hbl hbA hS dL_law_31 ?_
  refine lv_iconst (v := 4) hx hb dL_law_32 (by decide) ?_
  refine lv_isub hx hb dL_law_33 ?_
  refine lv_icmp_gt (tgt := 1491) hx hb dL_law_34 (by decide) (fun c_34 => ?_) (fun c_34 => ?_)
  · skip
    exact hEnd k H locs ls hk hS
  · skip
    have h4k : 4 * k + 4 ≤ NL := l4_le c_34 hNL hk
    refine lv_aload_n hx hb dL_law_37 rfl (lv_at hl 0 rfl) ?_
    refine lv_iload hx hb dL_law_38 (lv_at hl 5 rfl) ?_
    refine g_sld E hXs hbl hbA hS (4 * k) rfl (by omega) (by omega) dL_law_40 ?_
    refine lv_bipush (v := 31) hx hb dL_law_41 (by decide) ?_
    refine lv_iand hx hb dL_law_43 ?_
    by_cases w_44_0 : ((xs (4 * k)) &&& 31) = 0
    · refine lv_tableIn (off := 116) (tgt := 160) hx hb dL_law_44 (by rw [w_44_0]; decide) (by rw [w_44_0]; decide) (by rw [w_44_0]; rfl) (by decide) ?_
      exact LC_set hl0 JH hZ hX hNC E hA hXs hbl hbA hNL b o2 o4 o5 o7 ou ow q zq tq qm h4k (hK h4k) n cn rg L zc zr pp zp dd zd jj nj zj zn nd ze yq yp yd yj yn ye yc yr i0 e0 kd f1 f2 f3 tx wj wd zs bt m1 m2 m3 tod tbe aj ad pa da ps ds rw mb th co tt hh ma mh ai le nu ot di wh sd ha of og H locs ls hI hP hD hS (lv_sub hl [0, 1, 2, 3, 4, 5] rfl)
    by_cases w_44_1 : ((xs (4 * k)) &&& 31) = 1
    · refine lv_tableIn (off := 184) (tgt := 228) hx hb dL_law_44 (by rw [w_44_1]; decide) (by rw [w_44_1]; decide) (by rw [w_44_1]; rfl) (by decide) ?_
      exact LC_setBend hl0 JH hZ hX hNC E hA hXs hbl hbA hNL b o2 o4 o5 o7 ou ow q zq tq qm h4k (hK h4k) n cn rg L zc zr pp zp dd zd jj nj zj zn nd ze yq yp yd yj yn ye yc yr i0 e0 kd f1 f2 f3 tx wj wd zs bt m1 m2 m3 tod tbe aj ad pa da ps ds rw mb th co tt hh ma mh ai le nu ot di wh sd ha of og H locs ls hI hP hD hS (lv_sub hl [0, 1, 2, 3, 4, 5] rfl)
    by_cases w_44_2 : ((xs (4 * k)) &&& 31) = 2
    · refine lv_tableIn (off := 264) (tgt := 308) hx hb dL_law_44 (by rw [w_44_2]; decide) (by rw [w_44_2]; decide) (by rw [w_44_2]; rfl) (by decide) ?_
      exact LC_addStar hl0 JH hZ hX hNC E hA hXs hbl hbA hNL b o2 o4 o5 o7 ou ow q zq tq qm h4k (hK h4k) n cn rg L zc zr pp zp dd zd jj nj zj zn nd ze yq yp yd yj yn ye yc yr i0 e0 kd f1 f2 f3 tx wj wd zs bt m1 m2 m3 tod tbe aj ad pa da ps ds rw mb th co tt hh ma mh ai le nu ot di wh sd ha of og H locs ls hI hP hD hS (lv_sub hl [0, 1, 2, 3, 4, 5] rfl)
    by_cases w_44_3 : ((xs (4 * k)) &&& 31) = 3
    · refine lv_tableIn (off := 332) (tgt := 376) hx hb dL_law_44 (by rw [w_44_3]; decide) (by rw [w_44_3]; decide) (by rw [w_44_3]; rfl) (by decide) ?_
      exact LC_aim hl0 JH hZ hX hNC E hA hXs hbl hbA hNL b o2 o4 o5 o7 ou ow q zq tq qm h4k (hK h4k) n cn rg L zc zr pp zp dd zd jj nj zj zn nd ze yq yp yd yj yn ye yc yr i0 e0 kd f1 f2 f3 tx wj wd zs bt m1 m2 m3 tod tbe aj ad pa da ps ds rw mb th co tt hh ma mh ai le nu ot di wh sd ha of og H locs ls hI hP hD hS (lv_sub hl [0, 1, 2, 3, 4, 5] rfl)
    by_cases w_44_4 : ((xs (4 * k)) &&& 31) = 4
    · refine lv_tableIn (off := 388) (tgt := 432) hx hb dL_law_44 (by rw [w_44_4]; decide) (by rw [w_44_4]; decide) (by rw [w_44_4]; rfl) (by decide) ?_
      exact LC_learn hl0 JH hZ hX hNC E hA hXs hbl hbA hNL b o2 o4 o5 o7 ou ow q zq tq qm h4k (hK h4k) n cn rg L zc zr pp zp dd zd jj nj zj zn nd ze yq yp yd yj yn ye yc yr i0 e0 kd f1 f2 f3 tx wj wd zs bt m1 m2 m3 tod tbe aj ad pa da ps ds rw mb th co tt hh ma mh ai le nu ot di wh sd ha of og H locs ls hI hP hD hS (lv_sub hl [0, 1, 2, 3, 4, 5] rfl)
    by_cases w_44_5 : ((xs (4 * k)) &&& 31) = 5
    · refine lv_tableIn (off := 432) (tgt := 476) hx hb dL_law_44 (by rw [w_44_5]; decide) (by rw [w_44_5]; decide) (by rw [w_44_5]; rfl) (by decide) ?_
      exact LC_learnAll hl0 JH hZ hX hNC E hA hXs hbl hbA hNL b o2 o4 o5 o7 ou ow q zq tq qm h4k (hK h4k) n cn rg L zc zr pp zp dd zd jj nj zj zn nd ze yq yp yd yj yn ye yc yr i0 e0 kd f1 f2 f3 tx wj wd zs bt m1 m2 m3 tod tbe aj ad pa da ps ds rw mb th co tt hh ma mh ai le nu ot di wh sd ha of og H locs ls hI hP hD hS (lv_sub hl [0, 1, 2, 3, 4, 5] rfl)
    by_cases w_44_6 : ((xs (4 * k)) &&& 31) = 6
    · refine lv_tableIn (off := 476) (tgt := 520) hx hb dL_law_44 (by rw [w_44_6]; decide) (by rw [w_44_6]; decide) (by rw [w_44_6]; rfl) (by decide) ?_
      exact LC_forget hl0 JH hZ hX hNC E hA hXs hbl hbA hNL b o2 o4 o5 o7 ou ow q zq tq qm h4k (hK h4k) n cn rg L zc zr pp zp dd zd jj nj zj zn nd ze yq yp yd yj yn ye yc yr i0 e0 kd f1 f2 f3 tx wj wd zs bt m1 m2 m3 tod tbe aj ad pa da ps ds rw mb th co tt hh ma mh ai le nu ot di wh sd ha of og H locs ls hI hP hD hS (lv_sub hl [0, 1, 2, 3, 4, 5] rfl)
    by_cases w_44_7 : ((xs (4 * k)) &&& 31) = 7
    · refine lv_tableIn (off := 532) (tgt := 576) hx hb dL_law_44 (by rw [w_44_7]; decide) (by rw [w_44_7]; decide) (by rw [w_44_7]; rfl) (by decide) ?_
      exact LC_star hl0 JH hZ hX hNC E hA hXs hbl hbA hNL b o2 o4 o5 o7 ou ow q zq tq qm h4k (hK h4k) n cn rg L zc zr pp zp dd zd jj nj zj zn nd ze yq yp yd yj yn ye yc yr i0 e0 kd f1 f2 f3 tx wj wd zs bt m1 m2 m3 tod tbe aj ad pa da ps ds rw mb th co tt hh ma mh ai le nu ot di wh sd ha of og H locs ls hI hP hD hS (lv_sub hl [0, 1, 2, 3, 4, 5] rfl)
    by_cases w_44_8 : ((xs (4 * k)) &&& 31) = 8
    · refine lv_tableIn (off := 600) (tgt := 644) hx hb dL_law_44 (by rw [w_44_8]; decide) (by rw [w_44_8]; decide) (by rw [w_44_8]; rfl) (by decide) ?_
      exact LC_correction hl0 JH hZ hX hNC E hA hXs hbl hbA hNL b o2 o4 o5 o7 ou ow q zq tq qm h4k (hK h4k) n cn rg L zc zr pp zp dd zd jj nj zj zn nd ze yq yp yd yj yn ye yc yr i0 e0 kd f1 f2 f3 tx wj wd zs bt m1 m2 m3 tod tbe aj ad pa da ps ds rw mb th co tt hh ma mh ai le nu ot di wh sd ha of og H locs ls hI hP hD hS (lv_sub hl [0, 1, 2, 3, 4, 5] rfl)
    by_cases w_44_9 : ((xs (4 * k)) &&& 31) = 9
    · refine lv_tableIn (off := 705) (tgt := 749) hx hb dL_law_44 (by rw [w_44_9]; decide) (by rw [w_44_9]; decide) (by rw [w_44_9]; rfl) (by decide) ?_
      exact LC_source hl0 JH hZ hX hNC E hA hXs hbl hbA hNL b o2 o4 o5 o7 ou ow q zq tq qm h4k (hK h4k) n cn rg L zc zr pp zp dd zd jj nj zj zn nd ze yq yp yd yj yn ye yc yr i0 e0 kd f1 f2 f3 tx wj wd zs bt m1 m2 m3 tod tbe aj ad pa da ps ds rw mb th co tt hh ma mh ai le nu ot di wh sd ha of og H locs ls hI hP hD hS (lv_sub hl [0, 1, 2, 3, 4, 5] rfl)
    by_cases w_44_10 : ((xs (4 * k)) &&& 31) = 10
    · refine lv_tableIn (off := 761) (tgt := 805) hx hb dL_law_44 (by rw [w_44_10]; decide) (by rw [w_44_10]; decide) (by rw [w_44_10]; rfl) (by decide) ?_
      exact LC_lessons hl0 JH hZ hX hNC E hA hXs hbl hbA hNL b o2 o4 o5 o7 ou ow q zq tq qm h4k (hK h4k) n cn rg L zc zr pp zp dd zd jj nj zj zn nd ze yq yp yd yj yn ye yc yr i0 e0 kd f1 f2 f3 tx wj wd zs bt m1 m2 m3 tod tbe aj ad pa da ps ds rw mb th co tt hh ma mh ai le nu ot di wh sd ha of og H locs ls hI hP hD hS (lv_sub hl [0, 1, 2, 3, 4, 5] rfl)
    by_cases w_44_11 : ((xs (4 * k)) &&& 31) = 11
    · refine lv_tableIn (off := 817) (tgt := 861) hx hb dL_law_44 (by rw [w_44_11]; decide) (by rw [w_44_11]; decide) (by rw [w_44_11]; rfl) (by decide) ?_
      exact LC_miss hl0 JH hZ hX hNC E hA hXs hbl hbA hNL b o2 o4 o5 o7 ou ow q zq tq qm h4k (hK h4k) n cn rg L zc zr pp zp dd zd jj nj zj zn nd ze yq yp yd yj yn ye yc yr i0 e0 kd f1 f2 f3 tx wj wd zs bt m1 m2 m3 tod tbe aj ad pa da ps ds rw mb th co tt hh ma mh ai le nu ot di wh sd ha of og H locs ls hI hP hD hS (lv_sub hl [0, 1, 2, 3, 4, 5] rfl)
    by_cases w_44_12 : ((xs (4 * k)) &&& 31) = 12
    · refine lv_tableIn (off := 894) (tgt := 938) hx hb dL_law_44 (by rw [w_44_12]; decide) (by rw [w_44_12]; decide) (by rw [w_44_12]; rfl) (by decide) ?_
      exact LC_value hl0 JH hZ hX hNC E hA hXs hbl hbA hNL b o2 o4 o5 o7 ou ow q zq tq qm h4k (hK h4k) n cn rg L zc zr pp zp dd zd jj nj zj zn nd ze yq yp yd yj yn ye yc yr i0 e0 kd f1 f2 f3 tx wj wd zs bt m1 m2 m3 tod tbe aj ad pa da ps ds rw mb th co tt hh ma mh ai le nu ot di wh sd ha of og H locs ls hI hP hD hS (lv_sub hl [0, 1, 2, 3, 4, 5] rfl)
    by_cases w_44_13 : ((xs (4 * k)) &&& 31) = 13
    · refine lv_tableIn (off := 950) (tgt := 994) hx hb dL_law_44 (by rw [w_44_13]; decide) (by rw [w_44_13]; decide) (by rw [w_44_13]; rfl) (by decide) ?_
      exact LC_setting hl0 JH hZ hX hNC E hA hXs hbl hbA hNL b o2 o4 o5 o7 ou ow q zq tq qm h4k (hK h4k) n cn rg L zc zr pp zp dd zd jj nj zj zn nd ze yq yp yd yj yn ye yc yr i0 e0 kd f1 f2 f3 tx wj wd zs bt m1 m2 m3 tod tbe aj ad pa da ps ds rw mb th co tt hh ma mh ai le nu ot di wh sd ha of og H locs ls hI hP hD hS (lv_sub hl [0, 1, 2, 3, 4, 5] rfl)
    by_cases w_44_14 : ((xs (4 * k)) &&& 31) = 14
    · refine lv_tableIn (off := 1006) (tgt := 1050) hx hb dL_law_44 (by rw [w_44_14]; decide) (by rw [w_44_14]; decide) (by rw [w_44_14]; rfl) (by decide) ?_
      exact LC_bend hl0 JH hZ hX hNC E hA hXs hbl hbA hNL b o2 o4 o5 o7 ou ow q zq tq qm h4k (hK h4k) n cn rg L zc zr pp zp dd zd jj nj zj zn nd ze yq yp yd yj yn ye yc yr i0 e0 kd f1 f2 f3 tx wj wd zs bt m1 m2 m3 tod tbe aj ad pa da ps ds rw mb th co tt hh ma mh ai le nu ot di wh sd ha of og H locs ls hI hP hD hS (lv_sub hl [0, 1, 2, 3, 4, 5] rfl)
    by_cases w_44_15 : ((xs (4 * k)) &&& 31) = 15
    · refine lv_tableIn (off := 1074) (tgt := 1118) hx hb dL_law_44 (by rw [w_44_15]; decide) (by rw [w_44_15]; decide) (by rw [w_44_15]; rfl) (by decide) ?_
      exact LC_missOf hl0 JH hZ hX hNC E hA hXs hbl hbA hNL b o2 o4 o5 o7 ou ow q zq tq qm h4k (hK h4k) n cn rg L zc zr pp zp dd zd jj nj zj zn nd ze yq yp yd yj yn ye yc yr i0 e0 kd f1 f2 f3 tx wj wd zs bt m1 m2 m3 tod tbe aj ad pa da ps ds rw mb th co tt hh ma mh ai le nu ot di wh sd ha of og H locs ls hI hP hD hS (lv_sub hl [0, 1, 2, 3, 4, 5] rfl)
    by_cases w_44_16 : ((xs (4 * k)) &&& 31) = 16
    · refine lv_tableIn (off := 1151) (tgt := 1195) hx hb dL_law_44 (by rw [w_44_16]; decide) (by rw [w_44_16]; decide) (by rw [w_44_16]; rfl) (by decide) ?_
      exact LC_slewTo hl0 JH hZ hX hNC E hA hXs hbl hbA hNL b o2 o4 o5 o7 ou ow q zq tq qm h4k (hK h4k) n cn rg L zc zr pp zp dd zd jj nj zj zn nd ze yq yp yd yj yn ye yc yr i0 e0 kd f1 f2 f3 tx wj wd zs bt m1 m2 m3 tod tbe aj ad pa da ps ds rw mb th co tt hh ma mh ai le nu ot di wh sd ha of og H locs ls hI hP hD hS (lv_sub hl [0, 1, 2, 3, 4, 5] rfl)
    by_cases w_44_17 : ((xs (4 * k)) &&& 31) = 17
    · refine lv_tableIn (off := 1207) (tgt := 1251) hx hb dL_law_44 (by rw [w_44_17]; decide) (by rw [w_44_17]; decide) (by rw [w_44_17]; rfl) (by decide) ?_
      exact LC_found hl0 JH hZ hX hNC E hA hXs hbl hbA hNL b o2 o4 o5 o7 ou ow q zq tq qm h4k (hK h4k) n cn rg L zc zr pp zp dd zd jj nj zj zn nd ze yq yp yd yj yn ye yc yr i0 e0 kd f1 f2 f3 tx wj wd zs bt m1 m2 m3 tod tbe aj ad pa da ps ds rw mb th co tt hh ma mh ai le nu ot di wh sd ha of og H locs ls hI hP hD hS (lv_sub hl [0, 1, 2, 3, 4, 5] rfl)
    by_cases w_44_18 : ((xs (4 * k)) &&& 31) = 18
    · refine lv_tableIn (off := 1220) (tgt := 1264) hx hb dL_law_44 (by rw [w_44_18]; decide) (by rw [w_44_18]; decide) (by rw [w_44_18]; rfl) (by decide) ?_
      exact LC_nearest hl0 JH hZ hX hNC E hA hXs hbl hbA hNL b o2 o4 o5 o7 ou ow q zq tq qm h4k (hK h4k) n cn rg L zc zr pp zp dd zd jj nj zj zn nd ze yq yp yd yj yn ye yc yr i0 e0 kd f1 f2 f3 tx wj wd zs bt m1 m2 m3 tod tbe aj ad pa da ps ds rw mb th co tt hh ma mh ai le nu ot di wh sd ha of og H locs ls hI hP hD hS (lv_sub hl [0, 1, 2, 3, 4, 5] rfl)
    by_cases w_44_19 : ((xs (4 * k)) &&& 31) = 19
    · refine lv_tableIn (off := 1233) (tgt := 1277) hx hb dL_law_44 (by rw [w_44_19]; decide) (by rw [w_44_19]; decide) (by rw [w_44_19]; rfl) (by decide) ?_
      exact LC_tour hl0 JH hZ hX hNC E hA hXs hbl hbA hNL b o2 o4 o5 o7 ou ow q zq tq qm h4k (hK h4k) n cn rg L zc zr pp zp dd zd jj nj zj zn nd ze yq yp yd yj yn ye yc yr i0 e0 kd f1 f2 f3 tx wj wd zs bt m1 m2 m3 tod tbe aj ad pa da ps ds rw mb th co tt hh ma mh ai le nu ot di wh sd ha of og H locs ls hI hP hD hS (lv_sub hl [0, 1, 2, 3, 4, 5] rfl)
    by_cases w_44_20 : ((xs (4 * k)) &&& 31) = 20
    · refine lv_tableIn (off := 1301) (tgt := 1345) hx hb dL_law_44 (by rw [w_44_20]; decide) (by rw [w_44_20]; decide) (by rw [w_44_20]; rfl) (by decide) ?_
      exact LC_append hl0 JH hZ hX hNC E hA hXs hbl hbA hNL b o2 o4 o5 o7 ou ow q zq tq qm h4k (hK h4k) n cn rg L zc zr pp zp dd zd jj nj zj zn nd ze yq yp yd yj yn ye yc yr i0 e0 kd f1 f2 f3 tx wj wd zs bt m1 m2 m3 tod tbe aj ad pa da ps ds rw mb th co tt hh ma mh ai le nu ot di wh sd ha of og H locs ls hI hP hD hS (lv_sub hl [0, 1, 2, 3, 4, 5] rfl)
    by_cases w_44_21 : ((xs (4 * k)) &&& 31) = 21
    · refine lv_tableIn (off := 1357) (tgt := 1401) hx hb dL_law_44 (by rw [w_44_21]; decide) (by rw [w_44_21]; decide) (by rw [w_44_21]; rfl) (by decide) ?_
      exact LC_clearText hl0 JH hZ hX hNC E hA hXs hbl hbA hNL b o2 o4 o5 o7 ou ow q zq tq qm h4k (hK h4k) n cn rg L zc zr pp zp dd zd jj nj zj zn nd ze yq yp yd yj yn ye yc yr i0 e0 kd f1 f2 f3 tx wj wd zs bt m1 m2 m3 tod tbe aj ad pa da ps ds rw mb th co tt hh ma mh ai le nu ot di wh sd ha of og H locs ls hI hP hD hS (lv_sub hl [0, 1, 2, 3, 4, 5] rfl)
    by_cases w_44_22 : ((xs (4 * k)) &&& 31) = 22
    · refine lv_tableIn (off := 1370) (tgt := 1414) hx hb dL_law_44 (by rw [w_44_22]; decide) (by rw [w_44_22]; decide) (by rw [w_44_22]; rfl) (by decide) ?_
      exact LC_carryOut hl0 JH hZ hX hNC E hA hXs hbl hbA hNL b o2 o4 o5 o7 ou ow q zq tq qm h4k (hK h4k) n cn rg L zc zr pp zp dd zd jj nj zj zn nd ze yq yp yd yj yn ye yc yr i0 e0 kd f1 f2 f3 tx wj wd zs bt m1 m2 m3 tod tbe aj ad pa da ps ds rw mb th co tt hh ma mh ai le nu ot di wh sd ha of og H locs ls hI hP hD hS (lv_sub hl [0, 1, 2, 3, 4, 5] rfl)
    by_cases w_44_23 : ((xs (4 * k)) &&& 31) = 23
    · refine lv_tableIn (off := 1383) (tgt := 1427) hx hb dL_law_44 (by rw [w_44_23]; decide) (by rw [w_44_23]; decide) (by rw [w_44_23]; rfl) (by decide) ?_
      exact LC_undo hl0 JH hZ hX hNC E hA hXs hbl hbA hNL b o2 o4 o5 o7 ou ow q zq tq qm h4k (hK h4k) n cn rg L zc zr pp zp dd zd jj nj zj zn nd ze yq yp yd yj yn ye yc yr i0 e0 kd f1 f2 f3 tx wj wd zs bt m1 m2 m3 tod tbe aj ad pa da ps ds rw mb th co tt hh ma mh ai le nu ot di wh sd ha of og H locs ls hI hP hD hS (lv_sub hl [0, 1, 2, 3, 4, 5] rfl)
    by_cases w_44_24 : ((xs (4 * k)) &&& 31) = 24
    · refine lv_tableIn (off := 1427) (tgt := 1471) hx hb dL_law_44 (by rw [w_44_24]; decide) (by rw [w_44_24]; decide) (by rw [w_44_24]; rfl) (by decide) ?_
      exact LC_digest hl0 JH hZ hX hNC E hA hXs hbl hbA hNL b o2 o4 o5 o7 ou ow q zq tq qm h4k (hK h4k) n cn rg L zc zr pp zp dd zd jj nj zj zn nd ze yq yp yd yj yn ye yc yr i0 e0 kd f1 f2 f3 tx wj wd zs bt m1 m2 m3 tod tbe aj ad pa da ps ds rw mb th co tt hh ma mh ai le nu ot di wh sd ha of og H locs ls hI hP hD hS (lv_sub hl [0, 1, 2, 3, 4, 5] rfl)
    refine lv_tableOut (tgt := 1485) hx hb dL_law_44 (tab_out (fun j9 hj9 => by rcases tab_25 hj9 with h9 | h9 | h9 | h9 | h9 | h9 | h9 | h9 | h9 | h9 | h9 | h9 | h9 | h9 | h9 | h9 | h9 | h9 | h9 | h9 | h9 | h9 | h9 | h9 | h9 <;> subst h9 <;> assumption)) (by decide) ?_
    refine lv_iinc (v := (nI (4 * (k + 1)))) (lv' := [(5, .int (nI (4 * (k + 1)))), (0, .ref bs), (1, .ref b), (2, .ref (qm 0)), (3, .ref ou), (4, .ref ow)]) hx hb dL_law_1485 hl (k := 5) rfl (ix_add (b := 4) rfl rfl) (by decide) rfl (fun ls hl => ?_)
    refine lv_goto (tgt := 28) hx hb dL_law_1488 (by decide) ?_
    refine W.widen (k := 117 + (k + 1)) (n := 2644 + 6 * (k + 1)) (by omega) (by omega) ?_
    exact hK h4k n cn rg L zc zr pp zp dd zd jj nj zj zn nd ze yq yp yd yj yn ye yc yr i0 e0 kd f1 f2 f3 tx wj wd zs bt m1 m2 m3 tod tbe aj ad pa da ps ds rw mb th co tt hh ma mh ai le nu ot di wh sd ha of og _ _ _ (LI_keep JH hI) hP hD hS (lv_sub hl [1, 2, 3, 4, 5, 0] rfl)
theorem law_loop {p : Program} {l : Launch} {e : Env} {s : State} {m : MethodId} {below : List Frame} {meth : Method} {c : Code} {A : Nat → Prop} {Q : State → Prop} {D : va_G} {g : Nat → ClassId} {bs NL : Nat} {xs : Nat → Int32} {J : Nat → (Nat → Int32) → (Nat → UInt64) → Prop} (hl0 : l.stackTraces = false) (JH : JOK J) (hZ : SF A s s.heap) (hX : XE A s s.heap) (hNC : NC s) (E : Ev p s m #[.ref bs] c cL_law 9 RL D g) (hA : ∀ q, s.heap.size ≤ q → A q) (hXs : va_X bs NL xs s s.heap) (hbl : bs < s.heap.size) (hbA : ¬ A bs) (hNL : NL ≤ 2048) (hEnd : ∀ (k : Nat) (H : Heap) (locs : List Loc) (ls : Array Slot), k ≤ 512 → va_S A s.heap H locs → W p l e room_1 s m #[.ref bs] below meth c H locs (117 + k) (2644 + 6 * k) Q (F0 m 1491 ls [])) (b o2 o4 o5 o7 ou ow : Nat) (q zq tq qm : Nat → Nat) : ∀ fu k : Nat, k ≤ 512 → NL < 4 * k + 4 * fu → LHK p l e s m below meth c A Q D g bs J b o2 o4 o5 o7 ou ow q zq tq qm k
  | 0, k, hk, hf => law_head hl0 JH hZ hX hNC E hA hXs hbl hbA hNL hEnd b o2 o4 o5 o7 ou ow q zq tq qm hk (fun h => absurd h (by omega))
  | fu + 1, k, hk, hf => law_head hl0 JH hZ hX hNC E hA hXs hbl hbA hNL hEnd b o2 o4 o5 o7 ou ow q zq tq qm hk (fun h => law_loop hl0 JH hZ hX hNC E hA hXs hbl hbA hNL hEnd b o2 o4 o5 o7 ou ow q zq tq qm fu (k + 1) (by omega) (by omega))
