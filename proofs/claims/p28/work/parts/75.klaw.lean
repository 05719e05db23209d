/-! The law's own methods: what holds between two acts. -/
def SX (t n : Nat) (yp : Nat → Nat → Int32) (yd : Nat → Nat → UInt64) (yc yr : Nat → Nat) : Prop :=
  (∀ i, i < 4 → yp i 22 = 0 ∨ yp i 22 = 1) ∧ ∀ i, i < n → kJ (yc i) t (yp i) (yd i) ∧ (¬ yp i 22 = 0 → yr i = rgS (yp i) (yp i 21).toInt.toNat)
def LX (t n cn rg : Nat) (pp : Nat → Int32) (dd : Nat → UInt64) (yp : Nat → Nat → Int32) (yd : Nat → Nat → UInt64) (yc yr : Nat → Nat) : Prop :=
  n ≤ 4 ∧ kJ cn t pp dd ∧ (¬ pp 22 = 0 → rg = rgS pp (pp 21).toInt.toNat) ∧ SX t n yp yd yc yr
def j4 (a b c e : Nat) : Nat → Nat
  | 0 => a
  | 1 => b
  | 2 => c
  | _ => e
section KLAW
variable {t u n cn c2 rg r2 k r w a i j : Nat} {pp p2 x : Nat → Int32} {dd e2 y : Nat → UInt64} {yp : Nat → Nat → Int32} {yd : Nat → Nat → UInt64} {yc yr : Nat → Nat} {v z g : Int32}
theorem SX_up (h : SX t n yp yd yc yr) (hu : t ≤ u) : SX u n yp yd yc yr := ⟨h.1, fun i hi => ⟨kJ_up (h.2 i hi).1 hu, (h.2 i hi).2⟩⟩
theorem LX_up (h : LX t n cn rg pp dd yp yd yc yr) (hu : t ≤ u) : LX u n cn rg pp dd yp yd yc yr := ⟨h.1, kJ_up h.2.1 hu, h.2.2.1, SX_up h.2.2.2 hu⟩
theorem kJ_22 (h : kJ cn t pp dd) : pp 22 = 0 ∨ pp 22 = 1 := h.1.1.2.2.2.2.2.2.2.1
theorem SX_save (hn : n ≤ 4) (h : SX t n yp yd yc yr) (hk : kJ cn t pp dd) (hr : ¬ pp 22 = 0 → rg = rgS pp (pp 21).toInt.toNat) : SX t (eN n + 1) (svP n yp pp) (svP n yd dd) (svP n yc cn) (svP n yr rg) := by
  refine ⟨svQ_all (P := fun p : Nat → Int32 => p 22 = 0 ∨ p 22 = 1) h.1 (kJ_22 hk) hn, fun i hi => ?_⟩
  by_cases e : i = eN n
  · subst e
    rw [svP_at, svP_at, svP_at, svP_at]
    exact ⟨hk, hr⟩
  · have hlt : i < eN n := by omega
    rw [svP_ne hn hlt, svP_ne hn hlt, svP_ne hn hlt, svP_ne hn hlt]
    have hq : (if n = 4 then i + 1 else i) < n := by
      unfold eN at hlt
      split at hlt <;> rename_i c <;> (first | rw [if_pos c] | rw [if_neg c]) <;> omega
    exact h.2 _ hq
theorem LX_save (h : LX t n cn rg pp dd yp yd yc yr) (hu : t ≤ u) (hk : kJ c2 u p2 e2) (hr : ¬ p2 22 = 0 → r2 = rgS p2 (p2 21).toInt.toNat) : LX u (eN n + 1) c2 r2 p2 e2 (svP n yp pp) (svP n yd dd) (svP n yc cn) (svP n yr rg) :=
  ⟨eN_le h.1, hk, hr, SX_up (SX_save h.1 h.2.2.2 h.2.1 h.2.2.1) hu⟩
theorem LX_undo (h : LX t n cn rg pp dd yp yd yc yr) (hn : n ≠ 0) : LX t (n - 1) (yc (n - 1)) (yr (n - 1)) (yp (n - 1)) (yd (n - 1)) yp yd yc yr := by
  obtain ⟨h1, h2, h3, h4⟩ := h
  obtain ⟨a, b⟩ := h4.2 (n - 1) (by omega)
  exact ⟨by omega, a, b, h4.1, fun i hi => h4.2 i (by omega)⟩
/-- taken back at once -/
theorem LX_back (h : LX u (eN n + 1) c2 r2 p2 e2 (svP n yp pp) (svP n yd dd) (svP n yc cn) (svP n yr rg)) : LX u (eN n) cn rg pp dd (svP n yp pp) (svP n yd dd) (svP n yc cn) (svP n yr rg) := by
  have q := LX_undo h (by omega)
  rw [Nat.add_sub_cancel, svP_at, svP_at, svP_at, svP_at] at q
  exact q
/-! an aim of the law -/
theorem aim_n1 (hs : isS cn (nI k)) (hk : k < 2 ^ 31) : ¬ cdAim pp dd cn (nI k) = 1 := fun z => by
  by_cases c : cpP pp dd k
  · rw [cdAim_0 hs hk c] at z; exact absurd z (by decide)
  · rw [cdAim_2 hs hk c] at z; exact absurd z (by decide)
theorem aim_0c (hs : isS cn (nI k)) (hk : k < 2 ^ 31) (h : cdAim pp dd cn (nI k) = 0) : cpP pp dd k := Classical.byContradiction fun c => by
  rw [cdAim_2 hs hk c] at h; exact absurd h (by decide)
theorem aim_2c (hs : isS cn (nI k)) (hk : k < 2 ^ 31) (h : cdAim pp dd cn (nI k) = 2) : ¬ cpP pp dd k := fun c => by
  rw [cdAim_0 hs hk c] at h; exact absurd h (by decide)
theorem wi_of (h : ¬ wiI pp k = 0) : wiP pp k := Classical.byContradiction fun z => h (wiI_f z)
theorem wi_1 (h : wiI pp k = 1) : wiP pp k := wi_of (by rw [h]; decide)
theorem fn_bit {j : Nat} : ∀ n, n ≤ 31 → ((tbN (fnF pp dd n)).testBit j = true ↔ j < n ∧ fdP (szF (plMA pp dd j) (plMH pp dd j)) (pp 2))
  | 0, _ => by
    show (tbN 0).testBit j = true ↔ _
    rw [show tbN 0 = 0 from rfl, Nat.zero_testBit]
    exact ⟨fun h => (by cases h), fun h => absurd h.1 (Nat.not_lt_zero _)⟩
  | n + 1, hn => by
    have ih := fn_bit (j := j) n (by omega)
    by_cases c : fdP (szF (plMA pp dd n) (plMH pp dd n)) (pp 2)
    · rw [fnF_y c, tb_or, tb_one _ (by omega), Nat.testBit_or, Bool.or_eq_true, ih, Nat.testBit_two_pow, decide_eq_true_iff]
      constructor
      · rintro (⟨a, b⟩ | e)
        · exact ⟨by omega, b⟩
        · subst e; exact ⟨by omega, c⟩
      · rintro ⟨a, b⟩
        by_cases e : n = j
        · exact Or.inr e
        · exact Or.inl ⟨by omega, b⟩
    · rw [fnF_n c, ih]
      constructor
      · rintro ⟨a, b⟩; exact ⟨by omega, b⟩
      · rintro ⟨a, b⟩
        by_cases e : n = j
        · subst e; exact absurd b c
        · exact ⟨by omega, b⟩
theorem fn_1 (hk : k < cn) (hcn : cn ≤ 20) (h : bitI (fnF pp dd cn) k = 1) : 1 = fdI pp dd k := by
  have c := ((fn_bit cn (by omega)).mp ((bit_tb (by omega)).mp h)).2
  unfold fdI; exact (if_neg c).symm
theorem fn_0 (hk : k < cn) (hcn : cn ≤ 20) (h : ¬ bitI (fnF pp dd cn) k = 1) : 0 = fdI pp dd k := by
  have c : ¬ fdP (szF (plMA pp dd k) (plMH pp dd k)) (pp 2) := fun z => h ((bit_tb (by omega)).mpr ((fn_bit cn (by omega)).mpr ⟨hk, z⟩))
  unfold fdI; exact (if_pos (Classical.not_not.mp c)).symm
theorem fd_ne {v : Int32} (h : v = fdI pp dd k) (c : ¬ v = 0) : 1 = fdI pp dd k := by
  obtain ⟨e, e1, e2⟩ := fd_nat (p := pp) (d := dd) (k := k)
  rw [e2] at h ⊢
  have q : e = 1 := by
    rcases (show e = 0 ∨ e = 1 by omega) with z | z
    · exact absurd (by rw [h, z]; rfl) c
    · exact z
  rw [q]; rfl
/-! lessons -/
theorem dc_eq {x y : UInt64} (h : x = y) (hn : qzN x) : Op.cmpValue (FP.dcmp x y) .l = 0 := by subst h; exact dc_rfl hn
theorem kJ_le (h : kJ cn t pp dd) (hr : r < 24) : ∃ L, L ≤ t ∧ pp (103 + r) = nI L := h.1.1.2.2.2.2.2.2.2.2 r hr
theorem le_pos (h : kJ cn t pp dd) (ht : t ≤ JT) (hr : r < 24) (hn : ¬ pp (103 + r) = 0) : 0 < pp (103 + r) := by
  unfold JT at ht
  obtain ⟨L, l1, l2⟩ := kJ_le h hr
  rw [l2] at hn ⊢
  rw [Int32.lt_iff_toInt_lt, nI_toInt (by omega), show (0 : Int32).toInt = 0 from rfl]
  have : L ≠ 0 := fun e => hn (by rw [e]; rfl)
  omega
theorem le_at : leP pp r (103 + r) = pp (103 + r) + 1 := by unfold leP; simp (disch := omega) only [pk_un, pk_us]
theorem leD_at0 : leD pp dd r (2 * r + 0) = leA pp dd r 0 := by unfold leD; rw [vf_un (by omega), vf_us]
theorem le_src (h : kJ cn t pp dd) (ht : t ≤ JT) (hr : r < 24) : srcN (pg (leP pp r) 103 24) r 24 = some r := by
  unfold JT at ht
  refine src_self hr ?_
  obtain ⟨L, l1, l2⟩ := kJ_le h hr
  rw [pgv hr, le_at, l2, show nI L + 1 = nI (L + 1) from nI_add L 1, Int32.lt_iff_toInt_lt, nI_toInt (by omega), show (0 : Int32).toInt = 0 from rfl]
  omega
theorem le_cor (h : kJ cn t pp dd) (ht : t ≤ JT) (hr : r < 24) : hldF (pg (leP pp r) 103 24) (d2 (leD pp dd r) 0 24) r = FP.dadd (if pp (103 + r) = 0 then dd 50 else dd (2 * r + 0)) (FP.ddiv (FP.dmul (dd 48) (FP.i2d (pp 1))) 4636737291354636288) := by
  rw [hld_src (le_src h ht hr), d2_at hr, leD_at0]; rfl
theorem go_fst (h : kJ cn t pp dd) (ht : t ≤ JT) (hk : k < 20) (hr : rgS pp k < 24) : hldF (pg pp 103 24) (d2 dd 0 24) (rgS pp k) = (if goP pp dd k (103 + rgS pp k) = 0 then goD pp dd k 50 else goD pp dd k (2 * rgS pp k + 0)) := by
  rw [goP_hi hk (by omega), goD_50]
  split
  · rfl
  · rename_i c
    have hp := le_pos h ht hr c
    rw [hld_own hr (by rw [pgv hr]; exact hp), d2_at hr, goD_lo (by omega)]
theorem go_hld (hk : k < 20) : hldF (pg (goP pp dd k) 103 24) (d2 (goD pp dd k) 0 24) r = hldF (pg pp 103 24) (d2 dd 0 24) r := by rw [goP_l hk, goD_a]
theorem kJ_18 (h : kJ cn t pp dd) : sumI (p4 pp 25 20) cn = pp 17 ∧ sumI (p4 pp 26 20) cn = pp 18 := ⟨h.1.1.2.2.2.2.2.2.1.1.symm, h.1.1.2.2.2.2.2.2.1.2.symm⟩
/-! a lesson of each star -/
theorem la_all (h : kJ cn t pp dd) (ht : t + 2 * cn ≤ JT) : ∀ n, n ≤ cn → ∀ (x : Nat → Int32) (y : Nat → UInt64) (v : Int32), laS pp dd n = some (x, y, v) → ∃ f m, v = nI f ∧ f ≤ m ∧ m ≤ n ∧ x 18 = pp 18 + nI f ∧ x 17 = pp 17 + nI m ∧ sumI (pg x 103 24) 24 = sumI (pg pp 103 24) 24 + nI m ∧ (m = 0 → x 21 = pp 21) ∧ (¬ m = 0 → x 22 = 0)
  | 0, _, x, y, v, e => by cases e; exact ⟨0, 0, rfl, Nat.le_refl _, Nat.le_refl _, (Int32.add_zero _).symm, (Int32.add_zero _).symm, (Int32.add_zero _).symm, fun _ => rfl, fun z => absurd rfl z⟩
  | n + 1, hn, x, y, v, e => by
    unfold laS at e
    cases e9 : laS pp dd n with
    | none => rw [e9] at e; cases e
    | some z =>
      obtain ⟨a, b, v1⟩ := z
      have ih := la_all h ht n (by omega) a b v1 e9
      have hJ := kj_la h ht n (by omega) a b v1 e9
      rw [e9] at e
      dsimp only at e
      obtain ⟨f, m, i1, i2, i3, i4, i5, i6, i7, i8⟩ := ih
      split at e
      · cases e; exact ⟨f, m, i1, i2, by omega, i4, i5, i6, i7, i8⟩
      · split at e
        · cases e; exact ⟨f, m, i1, i2, by omega, i4, i5, i6, i7, i8⟩
        · split at e
          · cases e
          · cases e
            have hcn := h.1.1.1.1
            obtain ⟨q, q1, q2⟩ := fd_nat (p := a) (d := b) (k := n)
            have hr : rgS a n < 24 := rgN_lt (hJ.1.1.2.2.2.2.1 n (by omega))
            refine ⟨f + q, m + 1, ?_, by omega, by omega, ?_, ?_, ?_, fun z => absurd z (by omega), fun _ => leP_22⟩
            · rw [i1, q2]; exact nI_add _ _
            · rw [leP_lo (by decide) (by decide), goP_18, i4, q2, Int32.add_assoc]; rw [show nI f + nI q = nI (f + q) from nI_add _ _]
            · rw [leP_lo (by decide) (by decide), goP_17, i5, Int32.add_assoc]; rw [show nI m + 1 = nI (m + 1) from nI_add _ 1]
            · rw [leP_l hr, sumI_upd 24 hr, goP_l (by omega), i6, Int32.add_assoc]; rw [show nI m + 1 = nI (m + 1) from nI_add _ 1]
theorem kj_laOK (h : kJ cn t pp dd) (ht : t + 2 * cn ≤ JT) : laOK pp dd cn := fun n x y v hn e => by
  have g := kj_la h ht n (by omega) x y v e
  have hz := g.1.1.2.2.2.2.1 n hn
  exact ⟨hz, (pl_ok g.1.1 g.1.2.1 (by omega) hz).1, le_ok (qj_go g.1 (by omega) hn).2.1 (rgN_lt hz)⟩
theorem i32_pl (a b : Int32) : a + b - a = b := by rw [Int32.add_comm, Int32.add_sub_cancel]
/-! a tour of the law -/
theorem set_or {a b c e : Nat} : (((((1 : Int32) <<< (nI a &&& 31)) ||| ((1 : Int32) <<< (nI b &&& 31))) ||| ((1 : Int32) <<< (nI c &&& 31))) ||| ((1 : Int32) <<< (nI e &&& 31)) : Int32) = orF (j4 a b c e) 4 := by
  show _ = ((((0 : Int32) ||| ((1 : Int32) <<< (nI a &&& 31))) ||| ((1 : Int32) <<< (nI b &&& 31))) ||| ((1 : Int32) <<< (nI c &&& 31))) ||| ((1 : Int32) <<< (nI e &&& 31))
  rw [Int32.zero_or]
theorem j4_lt {b c e : Nat} (h1 : a < cn) (h2 : b < cn) (h3 : c < cn) (h4 : e < cn) : ∀ q, q < 4 → j4 a b c e q < cn := fun q hq => by
  rcases (show q = 0 ∨ q = 1 ∨ q = 2 ∨ q = 3 by omega) with z | z | z | z <;> subst z <;> assumption
theorem to_out {N m : Nat} {y : Int32} (h : y = -1 ∨ ∃ k, k < N ∧ y = nI k) (e : y = nI m) (hN : N ≤ m) (hm : m < 1000) : False := by
  rcases h with h | ⟨k, h1, h2⟩
  · exact nI_m1 hm (e.symm.trans h)
  · have := nI_inj9 (h2.symm.trans e) (by omega) (by omega); omega
def gnP (p : Nat → Int32) (d : Nat → UInt64) (f : Nat → Nat) (n : Nat) : Nat → Int32 := (goN p d f n).1
def gnD (p : Nat → Int32) (d : Nat → UInt64) (f : Nat → Nat) (n : Nat) : Nat → UInt64 := (goN p d f n).2
theorem gn_P {f : Nat → Nat} : goP (gnP pp dd f n) (gnD pp dd f n) (f n) = gnP pp dd f (n + 1) := rfl
theorem gn_D {f : Nat → Nat} : goD (gnP pp dd f n) (gnD pp dd f n) (f n) = gnD pp dd f (n + 1) := rfl
/-! settings, bends, stars -/
theorem va_1 (hw : w < 3) (ha : a < 100) : vaS (nI w) (nI (1 + a)) := by
  have e1 : (nI (1 + a)).toInt = ((1 + a : Nat) : Int) := nI_toInt (by omega)
  rcases (show w = 0 ∨ w = 1 ∨ w = 2 by omega) with z | z | z <;> subst z
  · refine ⟨by decide, ?_, ?_⟩
    · rw [show loS (nI 0) = 1 by decide, Int32.lt_iff_toInt_lt, e1, show (1 : Int32).toInt = 1 from rfl]; omega
    · rw [show hiS (nI 0) = 600 by decide, Int32.lt_iff_toInt_lt, e1, show (600 : Int32).toInt = 600 from rfl]; omega
  · refine ⟨by decide, ?_, ?_⟩
    · rw [show loS (nI 1) = 1 by decide, Int32.lt_iff_toInt_lt, e1, show (1 : Int32).toInt = 1 from rfl]; omega
    · rw [show hiS (nI 1) = 100 by decide, Int32.lt_iff_toInt_lt, e1, show (100 : Int32).toInt = 100 from rfl]; omega
  · refine ⟨by decide, ?_, ?_⟩
    · rw [show loS (nI 2) = 1 by decide, Int32.lt_iff_toInt_lt, e1, show (1 : Int32).toInt = 1 from rfl]; omega
    · rw [show hiS (nI 2) = 120 by decide, Int32.lt_iff_toInt_lt, e1, show (120 : Int32).toInt = 120 from rfl]; omega
theorem va_2 (hw : 3 ≤ w) (hw5 : w < 5) (ha : a < 5401) : vaS (nI w) (nI a) := by
  have e1 : (nI a).toInt = (a : Int) := nI_toInt (by omega)
  rcases (show w = 3 ∨ w = 4 by omega) with z | z <;> subst z
  · refine ⟨by decide, ?_, ?_⟩
    · rw [show loS (nI 3) = 0 by decide, Int32.lt_iff_toInt_lt, e1, show (0 : Int32).toInt = 0 from rfl]; omega
    · rw [show hiS (nI 3) = 5400 by decide, Int32.lt_iff_toInt_lt, e1, show (5400 : Int32).toInt = 5400 from rfl]; omega
  · refine ⟨by decide, ?_, ?_⟩
    · rw [show loS (nI 4) = 0 by decide, Int32.lt_iff_toInt_lt, e1, show (0 : Int32).toInt = 0 from rfl]; omega
    · rw [show hiS (nI 4) = 5400 by decide, Int32.lt_iff_toInt_lt, e1, show (5400 : Int32).toInt = 5400 from rfl]; omega
theorem set_n1 (h : vaS z v) : ¬ cdSet pp z v = 1 := fun e => by
  by_cases c : crS pp z v
  · rw [cdSet_2 h c] at e; exact absurd e (by decide)
  · rw [cdSet_0 h c] at e; exact absurd e (by decide)
theorem set_2c (h : vaS z v) (e : cdSet pp z v = 2) : crS pp z v := Classical.byContradiction fun c => by rw [cdSet_0 h c] at e; exact absurd e (by decide)
theorem kJ_set (h : kJ cn t pp dd) (hw : w < 5) : ¬ pp w < 0 := h.2.1.2 w hw
theorem m120 (ha : a < 241) : (nI a - 120).toInt = (a : Int) - 120 := by
  rw [Jvm.Kit.i32_sub (by rw [nI_toInt (by omega), show (120 : Int32).toInt = 120 from rfl]; omega) (by rw [nI_toInt (by omega), show (120 : Int32).toInt = 120 from rfl]; omega), nI_toInt (by omega)]; rfl
theorem vb_ok (hi : i < 2) (hj : j < 4) (ha : a < 241) : vaB (nI i) (nI j) (nI a - 120) := by
  have e := m120 ha
  refine ⟨⟨nI_pos (by omega), ?_⟩, ⟨nI_pos (by omega), ?_⟩, ?_, ?_⟩
  · rw [Int32.lt_iff_toInt_lt, nI_toInt (by omega), show (1 : Int32).toInt = 1 from rfl]; omega
  · rw [Int32.lt_iff_toInt_lt, nI_toInt (by omega), show (3 : Int32).toInt = 3 from rfl]; omega
  · rw [Int32.lt_iff_toInt_lt, e, show (-120 : Int32).toInt = -120 from rfl]; omega
  · rw [Int32.lt_iff_toInt_lt, e, show (120 : Int32).toInt = 120 from rfl]; omega
theorem sb_n1 (h : vaB z g v) : ¬ cdSb z g v = 1 := fun e => by rw [cdSb_0 h] at e; exact absurd e (by decide)
theorem sb_121 : ¬ cdSb z g 121 = 0 := fun e => by rw [cdSb_1 (fun q => q.2.2.2 (by decide))] at e; exact absurd e (by decide)
theorem fg_at : fgP pp k (103 + k) = 0 := pk_us
theorem bd_at : bdP pp i v (5 + i) = v := pk_us
theorem st_at : stP pp i v i = v := pk_us
theorem vA_ok {a b : Nat} (h1 : a < 21600) (h2 : b ≤ 5400) : vaA (nI a) (nI b) := by
  refine ⟨⟨nI_pos (by omega), ?_⟩, nI_pos (by omega), ?_⟩
  · rw [Int32.lt_iff_toInt_lt, nI_toInt (by omega), show (21599 : Int32).toInt = 21599 from rfl]; omega
  · rw [Int32.lt_iff_toInt_lt, nI_toInt (by omega), show (5400 : Int32).toInt = 5400 from rfl]; omega
theorem inS_ok {a b : Nat} (h1 : a < 21600) (h2 : b ≤ 5400) : inS (nI a) (nI b) := by
  unfold inS
  rw [nI_toInt (by omega), nI_toInt (by omega)]; omega
theorem ad_z : adP pp k z g (23 + 4 * k) = z := by unfold adP; simp (disch := omega) only [pk_un, pk_us]
theorem ad_g : adP pp k z g (24 + 4 * k) = g := by unfold adP; simp (disch := omega) only [pk_un, pk_us]
theorem ad_5 : adP pp k z g (25 + 4 * k) = pp (25 + 4 * k) := by unfold adP; simp (disch := omega) only [pk_un]
theorem ad_22 : adP pp k z g 22 = pp 22 ∧ adP pp k z g 21 = pp 21 := by unfold adP; constructor <;> simp (disch := omega) only [pk_un]
theorem kJ_a0 (h : kJ cn t pp dd) (hc : cn < 20) : pp (25 + 4 * cn) = 0 := (h.1.1.2.2.2.2.2.1 cn (Nat.le_refl _) hc).1
theorem kJ_21 (h : kJ cn t pp dd) (h22 : ¬ pp 22 = 0) : ∃ j, j < cn ∧ pp 21 = nI j := h.2.2.2.2.2 (fun z => h22 (h.2.2.2.2.1 z).2)
theorem ad_rw (h : kJ cn t pp dd) (hc : cn < 20) (hr : ¬ pp 22 = 0 → rg = rgS pp (pp 21).toInt.toNat) : ¬ adP pp cn z g 22 = 0 → rg = rgS (adP pp cn z g) (adP pp cn z g 21).toInt.toNat := fun q => by
  rw [ad_22.1] at q
  obtain ⟨j, hj, ej⟩ := kJ_21 h q
  rw [ad_22.2, hr q, ej, nI_tn (by omega), ad_rg hj hc]
theorem fg_rw (h : kJ cn t pp dd) (hk : k < 24) (hr : ¬ pp 22 = 0 → rg = rgS pp (pp 21).toInt.toNat) : ¬ fgP pp k 22 = 0 → rg = rgS (fgP pp k) (fgP pp k 21).toInt.toNat := fun q => by
  have hcn := h.1.1.1.1
  rw [fgP_o (by decide)] at q
  obtain ⟨j, hj, ej⟩ := kJ_21 h q
  rw [fgP_o (by decide), hr q, ej, nI_tn (by omega), fg_rg hk (by omega)]
theorem st_rw (hk : k < 5) (hr : ¬ pp 22 = 0 → rg = rgS pp (pp 21).toInt.toNat) : ¬ stP pp k v 22 = 0 → rg = rgS (stP pp k v) (stP pp k v 21).toInt.toNat := fun q => by
  rw [stP_o hk (by decide)] at q
  rw [stP_o hk (by decide), st_rg hk]; exact hr q
theorem bd_rw (hi : i < 8) (hr : ¬ pp 22 = 0 → rg = rgS pp (pp 21).toInt.toNat) : ¬ bdP pp i v 22 = 0 → rg = rgS (bdP pp i v) (bdP pp i v 21).toInt.toNat := fun q => by
  rw [bdP_o hi (by decide)] at q
  rw [bdP_o hi (by decide), bd_rg hi]; exact hr q
theorem go_rw (hk : k < 20) : ¬ goP pp dd k 22 = 0 → rgS pp k = rgS (goP pp dd k) (goP pp dd k 21).toInt.toNat := fun _ => (rg_go hk).symm
theorem la_rw (h : x 22 = 0 ∨ (x = pp ∧ r2 = rg)) (hr : ¬ pp 22 = 0 → rg = rgS pp (pp 21).toInt.toNat) : ¬ x 22 = 0 → r2 = rgS x (x 21).toInt.toNat := fun q => by
  rcases h with h | ⟨h1, h2⟩
  · exact absurd h q
  · rw [h2, h1]; exact hr (by rw [← h1]; exact q)
end KLAW
