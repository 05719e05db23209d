/-! The bits of a double, told by arithmetic, are its bits. -/
theorem gz_2 : FP.Core.val64 4611686018427387904 = FP.Core.Datum.fin false (2 ^ 52) (-51) ∧ qzN 4611686018427387904 ∧ qzV 4611686018427387904 = 2 * (qzO : Int) := by
  have e : FP.Core.val64 4611686018427387904 = FP.Core.Datum.fin false (2 ^ 52) (-51) := by decide +kernel
  refine ⟨e, by show FP.Core.val64 _ ≠ _; rw [e]; exact FP.Core.Datum.noConfusion, ?_⟩
  show FP.Core.zval FP.Core.b64 (FP.Core.val64 4611686018427387904) = 2 * ((FP.Core.one64 : Nat) : Int)
  decide +kernel
theorem gz_1 : qzN FP.dconst1 ∧ qzV FP.dconst1 = (qzO : Int) := by
  have e : FP.Core.val64 FP.dconst1 = FP.Core.Datum.fin false (2 ^ 52) (-52) := FP.Core.val64_dconst1
  refine ⟨by show FP.Core.val64 _ ≠ _; rw [e]; exact FP.Core.Datum.noConfusion, ?_⟩
  show FP.Core.zval FP.Core.b64 (FP.Core.val64 FP.dconst1) = ((FP.Core.one64 : Nat) : Int)
  decide +kernel
theorem gz_52 : FP.Core.val64 (FP.l2d 4503599627370496) = FP.Core.Datum.fin false (2 ^ 52) 0 := by
  show FP.Core.val64 (FP.Core.l2d 4503599627370496) = _
  decide +kernel
theorem gz_b : FP.Core.b64.qmin = -1074 ∧ FP.Core.b64.qmax = 971 ∧ FP.Core.b64.p = 53 ∧ FP.Core.b64.tails = 2 ^ 52 := by decide +kernel
theorem qzO_eq : qzO = 2 ^ 1074 := rfl
/-- finite, no sign -/
def gzP (s : UInt64) : Prop := qzF s ∧ qzS s = false
theorem gz_v {s : UInt64} (h : gzP s) : qzV s = (qzM s : Int) := by
  rcases qz_sm s with ⟨z, _⟩ | ⟨_, z⟩
  · rw [h.2] at z; cases z
  · exact z
/-- its parts -/
theorem gz_p {s : UInt64} (h : gzP s) : ∃ (c : Nat) (q : Int), FP.Core.val64 s = FP.Core.Datum.fin false c q ∧ c < 2 ^ 53 ∧ -1074 ≤ q ∧ q ≤ 971 ∧ (q = -1074 ∨ 2 ^ 52 ≤ c) ∧ qzM s = c * 2 ^ (q + 1074).toNat := by
  obtain ⟨⟨sg, c, q, e⟩, hs⟩ := h
  have f := FP.Core.val64_fits s
  obtain ⟨b1, b2, b3, b4⟩ := gz_b
  rw [e] at f
  obtain ⟨f1, f2, f3, f4⟩ := f
  rw [b3] at f1
  rw [b1] at f2 f4
  rw [b2] at f3
  rw [b4] at f4
  have e0 : sg = false := by unfold qzS at hs; rw [e] at hs; exact hs
  subst e0
  refine ⟨c, q, e, f1, f2, f3, f4, ?_⟩
  unfold qzM
  rw [e]
  show c * 2 ^ (q - FP.Core.b64.qmin).toNat = _
  rw [b1, show q - -1074 = q + 1074 by omega]
theorem gz_of {s : UInt64} {c : Nat} {q : Int} (e : FP.Core.val64 s = FP.Core.Datum.fin false c q) : gzP s ∧ qzM s = c * 2 ^ (q + 1074).toNat := by
  refine ⟨⟨⟨false, c, q, e⟩, by unfold qzS; rw [e]; rfl⟩, ?_⟩
  unfold qzM
  rw [e]
  show c * 2 ^ (q - FP.Core.b64.qmin).toNat = _
  rw [gz_b.1, show q - -1074 = q + 1074 by omega]
theorem gz_half {s : UInt64} (h : gzP s) (h2 : 2 * qzO ≤ qzM s) : gzP (FP.ddiv s 4611686018427387904) ∧ 2 * qzM (FP.ddiv s 4611686018427387904) = qzM s := by
  obtain ⟨c, q, e, f1, f2, f3, f4, f5⟩ := gz_p h
  obtain ⟨b1, b2, b3, b4⟩ := gz_b
  have hq : -1074 < q := by
    rcases Int.lt_or_eq_of_le f2 with z | z
    · exact z
    · exfalso
      rw [← z] at f5
      have : qzM s = c := by rw [f5]; exact Nat.mul_one c
      rw [this, qzO_eq] at h2
      have : 2 ^ 53 ≤ 2 * 2 ^ 1074 := by decide +kernel
      omega
  have hc : 2 ^ 52 ≤ c := by
    rcases f4 with z | z
    · omega
    · exact z
  have ev : FP.Core.val64 (FP.ddiv s 4611686018427387904) = FP.Core.Datum.fin false c (q - 1) := by
    show FP.Core.val64 (FP.Core.ddiv s 4611686018427387904) = _
    rw [FP.Core.val64_ddiv, e, gz_2.1]
    show (if 2 ^ 52 = 0 then (if c = 0 then FP.Core.Datum.nan else FP.Core.Datum.inf (false != false)) else FP.Core.roundRatio FP.Core.b64 (false != false) c (2 ^ 52) (q - -51)) = _
    rw [if_neg (by decide)]
    refine FP.Core.roundRatio_exact FP.Core.good_b64 (by decide) ⟨by rw [b3]; exact f1, by rw [b1]; omega, by rw [b2]; omega, Or.inr (by rw [b4]; exact hc)⟩ ?_
    rw [show (q - -51 - (q - 1)).toNat = 52 by omega, show (q - 1 - (q - -51)).toNat = 0 by omega, Nat.pow_zero, Nat.mul_one]
  obtain ⟨g1, g2⟩ := gz_of ev
  refine ⟨g1, ?_⟩
  rw [g2, f5, show (q + 1074).toNat = (q - 1 + 1074).toNat + 1 by omega, Nat.pow_succ]
  rw [Nat.mul_left_comm, Nat.mul_comm 2 (2 ^ _)]
theorem gz_dbl {s : UInt64} (h : gzP s) (h2 : qzM s < qzO) : gzP (FP.dmul s 4611686018427387904) ∧ qzM (FP.dmul s 4611686018427387904) = 2 * qzM s := by
  obtain ⟨c, q, e, f1, f2, f3, f4, f5⟩ := gz_p h
  obtain ⟨b1, b2, b3, b4⟩ := gz_b
  have hm : FP.Core.val64 (FP.dmul s 4611686018427387904) = FP.Core.roundRatio FP.Core.b64 false (c * 2 ^ 52) 1 (q + -51) := by
    show FP.Core.val64 (FP.Core.dmul s 4611686018427387904) = _
    rw [FP.Core.val64_dmul, e, gz_2.1]; rfl
  by_cases hc : 2 ^ 52 ≤ c
  · have hq : q < 0 := by
      have h3 : 2 ^ (q + 1074).toNat < 2 ^ 1074 := by
        rw [← qzO_eq]
        refine Nat.lt_of_le_of_lt ?_ h2
        rw [f5]
        exact Nat.le_mul_of_pos_left _ (by omega)
      have := (Nat.pow_lt_pow_iff_right (a := 2) (by decide)).mp h3
      omega
    have ev : FP.Core.val64 (FP.dmul s 4611686018427387904) = FP.Core.Datum.fin false c (q + 1) := by
      rw [hm]
      refine FP.Core.roundRatio_exact FP.Core.good_b64 (by decide) ⟨by rw [b3]; exact f1, by rw [b1]; omega, by rw [b2]; omega, Or.inr (by rw [b4]; exact hc)⟩ ?_
      rw [show (q + -51 - (q + 1)).toNat = 0 by omega, show (q + 1 - (q + -51)).toNat = 52 by omega, Nat.pow_zero, Nat.mul_one, Nat.mul_one]
    obtain ⟨g1, g2⟩ := gz_of ev
    refine ⟨g1, ?_⟩
    rw [g2, f5, show (q + 1 + 1074).toNat = (q + 1074).toNat + 1 by omega, Nat.pow_succ]
    rw [Nat.mul_left_comm 2, Nat.mul_comm 2 (2 ^ _)]
  · have hq : q = -1074 := by
      rcases f4 with z | z
      · exact z
      · exact absurd z hc
    subst hq
    have ev : FP.Core.val64 (FP.dmul s 4611686018427387904) = FP.Core.Datum.fin false (2 * c) (-1074) := by
      rw [hm]
      refine FP.Core.roundRatio_exact FP.Core.good_b64 (by decide) ⟨by rw [b3]; omega, by rw [b1]; omega, by rw [b2]; omega, Or.inl b1.symm⟩ ?_
      show c * 2 ^ 52 * 2 ^ (-1074 + -51 - -1074 : Int).toNat = 2 * c * 1 * 2 ^ (-1074 - (-1074 + -51) : Int).toNat
      rw [show (-1074 + -51 - -1074 : Int).toNat = 0 from rfl, show (-1074 - (-1074 + -51) : Int).toNat = 51 from rfl]
      omega
    obtain ⟨g1, g2⟩ := gz_of ev
    refine ⟨g1, ?_⟩
    rw [g2, f5]
    show 2 * c * 2 ^ (0 : Int).toNat = 2 * (c * 2 ^ (0 : Int).toNat)
    exact Nat.mul_assoc _ _ _
theorem gz_lt2 {s : UInt64} (h : gzP s) : Op.cmpValue (FP.dcmp s 4611686018427387904) .l < 0 ↔ qzM s < 2 * qzO := by
  have v := gz_v h
  have e := gz_2.2.2
  rcases qz_cmp (qz_fn h.1) gz_2.2.1 with ⟨z, y⟩ | ⟨z, y⟩ | ⟨z, y⟩ <;> rw [y]
  · exact ⟨fun _ => by omega, fun _ => by decide⟩
  · exact ⟨fun q => absurd q (by decide), fun _ => by omega⟩
  · exact ⟨fun q => absurd q (by decide), fun _ => by omega⟩
theorem gz_ge1 {s : UInt64} (h : gzP s) : 0 ≤ Op.cmpValue (FP.dcmp s FP.dconst1) .g ↔ qzO ≤ qzM s := by
  have v := gz_v h
  have e := gz_1.2
  rcases qz_cmp (qz_fn h.1) gz_1.1 with ⟨z, y⟩ | ⟨z, y⟩ | ⟨z, y⟩ <;> rw [y]
  · exact ⟨fun q => absurd q (by decide), fun _ => by omega⟩
  · exact ⟨fun _ => by omega, fun _ => by decide⟩
  · exact ⟨fun _ => by omega, fun _ => by decide⟩
theorem gz_l1 : ∀ (n k : Nat) (s : UInt64), n + 1 + k = 1024 → gzP s → qzM s < 2 ^ (1075 + n) → ∃ s2 k2, bo1 (n + 1) s k = (s2, k2) ∧ gzP s2 ∧ k ≤ k2 ∧ k2 ≤ 1023 ∧ qzM s2 * 2 ^ (k2 - k) = qzM s ∧ qzM s2 < 2 * qzO
  | 0, k, s, hk, hp, hb => by
    have c : qzM s < 2 * qzO := by
      rw [qzO_eq, Nat.mul_comm, ← Nat.pow_succ]; exact hb
    exact ⟨s, k, if_pos ((gz_lt2 hp).mpr c), hp, Nat.le_refl _, by omega, by rw [Nat.sub_self]; exact Nat.mul_one _, c⟩
  | n + 1, k, s, hk, hp, hb => by
    by_cases c : qzM s < 2 * qzO
    · exact ⟨s, k, if_pos ((gz_lt2 hp).mpr c), hp, Nat.le_refl _, by omega, by rw [Nat.sub_self]; exact Nat.mul_one _, c⟩
    · obtain ⟨g1, g2⟩ := gz_half hp (by omega)
      have hb2 : qzM (FP.ddiv s 4611686018427387904) < 2 ^ (1075 + n) := by
        rw [show 1075 + (n + 1) = 1075 + n + 1 by omega, Nat.pow_succ] at hb
        omega
      obtain ⟨s2, k2, e, p, l1, l2, l3, l4⟩ := gz_l1 n (k + 1) _ (by omega) g1 hb2
      refine ⟨s2, k2, ?_, p, by omega, l2, ?_, l4⟩
      · show (if Op.cmpValue (FP.dcmp s 4611686018427387904) .l < 0 then (s, k) else if 1023 ≤ k then (s, k) else bo1 (n + 1) (FP.ddiv s 4611686018427387904) (k + 1)) = _
        rw [if_neg (fun z => c ((gz_lt2 hp).mp z)), if_neg (by omega)]; exact e
      · rw [show k2 - k = k2 - (k + 1) + 1 by omega, Nat.pow_succ, ← Nat.mul_assoc, l3, Nat.mul_comm]; exact g2
theorem gz_l2 : ∀ (a : Nat) (s : UInt64), gzP s → qzM s < 2 * qzO → ∃ s2 a2, bo2 (a + 1) s a = (s2, a2) ∧ gzP s2 ∧ a2 ≤ a ∧ qzM s2 = qzM s * 2 ^ (a - a2) ∧ qzM s2 < 2 * qzO ∧ (qzO ≤ qzM s2 ∨ a2 = 0)
  | 0, s, hp, hb => by
    by_cases c : qzO ≤ qzM s
    · exact ⟨s, 0, if_pos ((gz_ge1 hp).mpr c), hp, Nat.le_refl _, (Nat.mul_one _).symm, hb, Or.inl c⟩
    · exact ⟨s, 0, (if_neg (fun z => c ((gz_ge1 hp).mp z))).trans (if_pos rfl), hp, Nat.le_refl _, (Nat.mul_one _).symm, hb, Or.inr rfl⟩
  | a + 1, s, hp, hb => by
    by_cases c : qzO ≤ qzM s
    · exact ⟨s, a + 1, if_pos ((gz_ge1 hp).mpr c), hp, Nat.le_refl _, by rw [Nat.sub_self]; exact (Nat.mul_one _).symm, hb, Or.inl c⟩
    · obtain ⟨g1, g2⟩ := gz_dbl hp (by omega)
      obtain ⟨s2, a2, e, p, l1, l2, l3, l4⟩ := gz_l2 a _ g1 (by omega)
      refine ⟨s2, a2, ?_, p, by omega, ?_, l3, l4⟩
      · show (if 0 ≤ Op.cmpValue (FP.dcmp s FP.dconst1) .g then (s, a + 1) else if a + 1 = 0 then (s, a + 1) else bo2 (a + 1) (FP.dmul s 4611686018427387904) (a + 1 - 1)) = _
        rw [if_neg (fun z => c ((gz_ge1 hp).mp z)), if_neg (Nat.succ_ne_zero a)]; exact e
      · rw [l2, g2, show a + 1 - a2 = a - a2 + 1 by omega, Nat.pow_succ]
        rw [Nat.mul_comm 2, Nat.mul_assoc, Nat.mul_comm 2 (2 ^ _)]
/-- the end of both loops -/
theorem gz_R {x : UInt64} (hp : gzP (absF x)) (hb : qzM (absF x) < 2 ^ 2098) : gzP (boR x).1 ∧ (boR x).2 ≤ 2045 ∧ qzM (boR x).1 * 2 ^ (boR x).2 = qzM (absF x) * 2 ^ 1022 ∧ qzM (boR x).1 < 2 * qzO ∧ (qzO ≤ qzM (boR x).1 ∨ (boR x).2 = 0) := by
  obtain ⟨s1, k1, e1, p1, l1, l2, l3, l4⟩ := gz_l1 1023 0 (absF x) rfl hp hb
  obtain ⟨s2, a2, e2, p2, m1, m2, m3, m4⟩ := gz_l2 (k1 + 1022) s1 p1 l4
  have e : boR x = (s2, a2) := by unfold boR; rw [e1]; exact e2
  rw [e]
  refine ⟨p2, by show a2 ≤ 2045; omega, ?_, m3, m4⟩
  show qzM s2 * 2 ^ a2 = _
  rw [Nat.sub_zero] at l3
  rw [m2, Nat.mul_assoc, ← Nat.pow_add, show k1 + 1022 - a2 + a2 = k1 + 1022 by omega, Nat.pow_add, ← Nat.mul_assoc, l3]
/-- the fraction -/
theorem gz_d2l {s : UInt64} (hp : gzP s) (h1 : 2 ^ 1022 ≤ qzM s) (h2 : qzM s < 2 * qzO) : FP.d2l (FP.dmul s (FP.l2d 4503599627370496)) = lN (qzM s / 2 ^ 1022) ∧ qzM s / 2 ^ 1022 < 2 ^ 53 := by
  obtain ⟨c, q, e, f1, f2, f3, f4, f5⟩ := gz_p hp
  obtain ⟨b1, b2, b3, b4⟩ := gz_b
  have hdv : qzM s / 2 ^ 1022 < 2 ^ 53 := by
    refine Nat.div_lt_of_lt_mul ?_
    rw [qzO_eq] at h2
    have e9 : 2 * 2 ^ 1074 = 2 ^ 1022 * 2 ^ 53 := by decide +kernel
    rw [← e9]; exact h2
  refine ⟨?_, hdv⟩
  have hc : 2 ^ 52 ≤ c := by
    rcases f4 with z | z
    · exfalso
      rw [z] at f5
      have e9 : qzM s = c := by rw [f5]; exact Nat.mul_one c
      rw [e9] at h1
      have : 2 ^ 53 ≤ 2 ^ 1022 := Nat.pow_le_pow_right (by decide) (by decide)
      omega
    · exact z
  have hq : q < 1 := by
    have h3 : 2 ^ (q + 1074).toNat < 2 ^ 1075 := by
      have e9 : 2 ^ 1075 = 2 * qzO := by rw [qzO_eq]; decide +kernel
      rw [e9]
      refine Nat.lt_of_le_of_lt ?_ h2
      rw [f5]
      exact Nat.le_mul_of_pos_left _ (by omega)
    have := (Nat.pow_lt_pow_iff_right (a := 2) (by decide)).mp h3
    omega
  have ev : FP.Core.val64 (FP.dmul s (FP.l2d 4503599627370496)) = FP.Core.Datum.fin false c (q + 52) := by
    show FP.Core.val64 (FP.Core.dmul s (FP.l2d 4503599627370496)) = _
    rw [FP.Core.val64_dmul, e, gz_52]
    show FP.Core.roundRatio FP.Core.b64 false (c * 2 ^ 52) 1 (q + 0) = _
    refine FP.Core.roundRatio_exact FP.Core.good_b64 (by decide) ⟨by rw [b3]; exact f1, by rw [b1]; omega, by rw [b2]; omega, Or.inr (by rw [b4]; exact hc)⟩ ?_
    rw [show (q + 0 - (q + 52)).toNat = 0 by omega, show (q + 52 - (q + 0)).toNat = 52 by omega, Nat.pow_zero, Nat.mul_one, Nat.mul_one]
  obtain ⟨g1, g2⟩ := gz_of ev
  have hM : qzM (FP.dmul s (FP.l2d 4503599627370496)) = 2 ^ 52 * qzM s := by
    rw [g2, f5, show (q + 52 + 1074).toNat = (q + 1074).toNat + 52 by omega, Nat.pow_add, ← Nat.mul_assoc, Nat.mul_comm (2 ^ 52)]
  have ed : (FP.d2l (FP.dmul s (FP.l2d 4503599627370496))).toInt = max (-2 ^ 63) (min (2 ^ 63 - 1) (FP.Core.signed (qzS (FP.dmul s (FP.l2d 4503599627370496))) (qzM (FP.dmul s (FP.l2d 4503599627370496)) / qzO))) := FP.Core.d2l_val (qz_fn g1.1)
  have e9 : qzO = 2 ^ 52 * 2 ^ 1022 := by rw [qzO_eq]; decide +kernel
  rw [g1.2, hM, e9, Nat.mul_div_mul_left _ _ (by decide)] at ed
  have e8 : FP.Core.signed false (qzM s / 2 ^ 1022) = ((qzM s / 2 ^ 1022 : Nat) : Int) := rfl
  rw [e8] at ed
  refine Int64.toInt_inj.mp ?_
  generalize qzM s / 2 ^ 1022 = w at hdv ed ⊢
  have e7 : (lN w).toInt = (w : Int) := by
    unfold lN
    exact Int64.toInt_ofNat_of_lt (by omega)
  rw [ed, e7]
  omega
theorem gz_uinj {m n : Nat} (h : FP.Core.unitsOf FP.Core.b64 m = FP.Core.unitsOf FP.Core.b64 n) : m = n := by
  rcases Nat.lt_trichotomy m n with z | z | z
  · have := FP.Core.unitsOf_lt (f := FP.Core.b64) z; omega
  · exact z
  · have := FP.Core.unitsOf_lt (f := FP.Core.b64) z; omega
theorem gz_units {a c : Nat} (h1 : 2 ^ 52 ≤ c) (h2 : c < 2 ^ 53) : FP.Core.unitsOf FP.Core.b64 (a * 2 ^ 52 + c) = c * 2 ^ a := by
  obtain ⟨b1, b2, b3, b4⟩ := gz_b
  unfold FP.Core.unitsOf
  rw [b4, if_neg (by omega)]
  have e1 : (a * 2 ^ 52 + c) % 2 ^ 52 = c - 2 ^ 52 := by omega
  have e2 : (a * 2 ^ 52 + c) / 2 ^ 52 = a + 1 := by omega
  rw [e1, e2, show 2 ^ 52 + (c - 2 ^ 52) = c by omega, Nat.add_sub_cancel]
/-- the bits -/
theorem gz_N {s : UInt64} {a X n : Nat} (hp : gzP s) (hX : 1 ≤ X) (hM : qzM s * 2 ^ a = X * 2 ^ 1022) (h2 : qzM s < 2 * qzO) (h3 : qzO ≤ qzM s ∨ a = 0) (hn : FP.Core.unitsOf FP.Core.b64 n = X) : 2 ^ 1022 ≤ qzM s ∧ n = a * 2 ^ 52 + qzM s / 2 ^ 1022 := by
  obtain ⟨b1, b2, b3, b4⟩ := gz_b
  by_cases c : qzO ≤ qzM s
  · obtain ⟨m, q, e, f1, f2, f3, f4, f5⟩ := gz_p hp
    have hm : 2 ^ 52 ≤ m := by
      rcases f4 with z | z
      · exfalso
        rw [z] at f5
        have e9 : qzM s = m := by rw [f5]; exact Nat.mul_one m
        rw [e9, qzO_eq] at c
        have : 2 ^ 53 ≤ 2 ^ 1074 := Nat.pow_le_pow_right (by decide) (by decide)
        omega
      · exact z
    have hq1 : q ≤ -52 := by
      have h4 : 2 ^ (52 + (q + 1074).toNat) < 2 ^ 1075 := by
        have e9 : 2 ^ 1075 = 2 * qzO := by rw [qzO_eq]; decide +kernel
        rw [e9]
        refine Nat.lt_of_le_of_lt ?_ h2
        rw [f5, Nat.pow_add]
        exact Nat.mul_le_mul_right _ hm
      have := (Nat.pow_lt_pow_iff_right (a := 2) (by decide)).mp h4
      omega
    have hq2 : -53 < q := by
      have h4 : 2 ^ 1074 < 2 ^ (53 + (q + 1074).toNat) := by
        rw [← qzO_eq]
        refine Nat.lt_of_le_of_lt c ?_
        rw [f5, Nat.pow_add]
        exact Nat.mul_lt_mul_of_pos_right f1 (Nat.two_pow_pos _)
      have := (Nat.pow_lt_pow_iff_right (a := 2) (by decide)).mp h4
      omega
    have hq : q = -52 := by omega
    subst hq
    have f6 : qzM s = m * 2 ^ 1022 := f5
    have hd : qzM s / 2 ^ 1022 = m := by rw [f6]; exact Nat.mul_div_cancel _ (Nat.two_pow_pos _)
    refine ⟨by rw [f6]; exact Nat.le_mul_of_pos_left _ (by omega), ?_⟩
    rw [hd]
    refine gz_uinj ?_
    rw [gz_units hm f1, hn]
    rw [f6, Nat.mul_right_comm] at hM
    exact (Nat.mul_right_cancel (Nat.two_pow_pos 1022) hM).symm
  · have ha : a = 0 := by
      rcases h3 with z | z
      · exact absurd z c
      · exact z
    subst ha
    rw [Nat.pow_zero, Nat.mul_one] at hM
    have hd : qzM s / 2 ^ 1022 = X := by rw [hM]; exact Nat.mul_div_cancel _ (Nat.two_pow_pos _)
    refine ⟨by rw [hM]; exact Nat.le_mul_of_pos_left _ hX, ?_⟩
    rw [hd, Nat.zero_mul, Nat.zero_add]
    refine gz_uinj ?_
    rw [hn]
    have hX2 : X < 2 ^ 52 := by
      have c2 : qzM s < qzO := by omega
      have e9 : qzO = 2 ^ 52 * 2 ^ 1022 := by rw [qzO_eq]; decide +kernel
      rw [hM, e9] at c2
      exact Nat.lt_of_mul_lt_mul_right c2
    unfold FP.Core.unitsOf
    rw [b4, if_pos hX2]
theorem lN_shl {n : Nat} (h : n < 4096) : lN n <<< ((52 : Int32).toInt64 &&& 63) = lN (n * 2 ^ 52) := by
  refine Int64.toBitVec_inj.mp ?_
  have e : ((52 : Int32).toInt64 &&& 63).toBitVec.smod 64 = 52#64 := by decide +kernel
  rw [Int64.toBitVec_shiftLeft, e]
  show (BitVec.ofNat 64 n) <<< (52#64) = BitVec.ofNat 64 (n * 2 ^ 52)
  refine BitVec.eq_of_toNat_eq ?_
  have e52 : (52 : Nat) % 2 ^ 64 = 52 := by decide
  rw [BitVec.shiftLeft_eq', BitVec.toNat_shiftLeft, Nat.shiftLeft_eq, BitVec.toNat_ofNat, BitVec.toNat_ofNat, Nat.mod_eq_of_lt (a := n) (by omega), e52, BitVec.toNat_ofNat]
theorem gz_sum {a w : Nat} (ha : a ≤ 2045) : ((nI a - 1022 + 1023 : Int32).toInt64 <<< ((52 : Int32).toInt64 &&& 63)) + (lN w - 4503599627370496) = lN (a * 2 ^ 52 + w) := by
  have e1 : (nI a - 1022 + 1023 : Int32) = nI (a + 1) := by
    have e0 : (-1022 + 1023 : Int32) = 1 := by decide
    rw [Int32.sub_eq_add_neg, Int32.add_assoc, e0]
    exact nI_1 a
  rw [e1, nI_l (by omega), lN_shl (by omega), show (a + 1) * 2 ^ 52 = a * 2 ^ 52 + 2 ^ 52 by omega, ← lN_add (a * 2 ^ 52) (2 ^ 52), ← lN_add (a * 2 ^ 52) w]
  have eC : (4503599627370496 : Int64) = lN (2 ^ 52) := by decide +kernel
  rw [eC]
  rw [Int64.add_assoc, Int64.sub_eq_add_neg, Int64.add_comm (lN w), ← Int64.add_assoc (lN (2 ^ 52)), ← Int64.sub_eq_add_neg, Int64.sub_self, Int64.zero_add]
theorem gB_ok {x : UInt64} {k : Nat} (h : qzB k x) (hk : k ≤ 100000000) (hz : qzZ x) : gB x := by
  have hO := qzO_pos
  obtain ⟨a1, a2, a3, a4, a5, a6⟩ := abs_ok h.1 hz
  have hM := (qzB_m h.1).mp h
  have hp : gzP (absF x) := ⟨a1, by
    have e := FP.Core.sgn_bits (qz_fn a1)
    show FP.Core.sgn (FP.Core.val64 (absF x)) = false
    rw [e]; exact decide_eq_false (by omega)⟩
  constructor
  · refine ⟨fun s => gzP s ∧ qzM s ≤ (k + 2) * qzO, ⟨hp, by rw [a4, Nat.add_mul]; omega⟩, fun s hs c => ?_, fun s hs c => ?_, fun s hs => ?_⟩
    · have g := gz_half hs.1 (Nat.le_of_not_lt fun z => c ((gz_lt2 hs.1).mpr z))
      exact ⟨qz_n64 (qz_fn g.1.1), g.1, by have := hs.2; omega⟩
    · have g2 : qzM s < qzO := Nat.lt_of_not_le fun z => c ((gz_ge1 hs.1).mpr z)
      have g := gz_dbl hs.1 g2
      refine ⟨qz_n64 (qz_fn g.1.1), g.1, ?_⟩
      rw [g.2, Nat.add_mul]; omega
    · exact qz_n64 (qz_mulN hs.1.1 (FP.Core.l2d_fin _))
  · have hxx : dbL x = x.toInt64 := by
      unfold dbL
      refine if_pos ?_
      rw [show FP.dcmp x x = some .eq from FP.Core.dcmp_self (qz_fn h.1)]; rfl
    have hxN : x.toInt64 = lN x.toNat := by
      show _ = Int64.ofNat x.toNat
      rw [← UInt64.toInt64_ofNat', UInt64.ofNat_toNat]
    rw [hxx]
    unfold boF
    by_cases c0 : qzV x = 0
    · have e : FP.dcmp x FP.dconst0 = some .eq := by
        rcases qz_cmp (qz_fn h.1) qz_v0.1 with ⟨z, _⟩ | ⟨_, z⟩ | ⟨z, _⟩
        · rw [qz_v0.2] at z; omega
        · exact z
        · rw [qz_v0.2] at z; omega
      rw [if_pos (by rw [e]; rfl)]
      have z2 := (FP.Core.zval_eq_zero (qz_fn h.1)).mp c0
      have hx : x = 0 := by
        have hlt := x.toNat_lt
        by_cases c : x.toNat < 2 ^ 63
        · exact UInt64.toNat.inj (by show x.toNat = 0; omega)
        · exact absurd (UInt64.toNat.inj (show x.toNat = (0x8000000000000000 : UInt64).toNat from by show x.toNat = 2 ^ 63; omega)) hz
      rw [hx]; rfl
    · have hn0 : ¬ Op.cmpValue (FP.dcmp x FP.dconst0) .l = 0 := by
        rcases qz_cmp (qz_fn h.1) qz_v0.1 with ⟨_, z⟩ | ⟨z, _⟩ | ⟨_, z⟩
        · rw [z]; decide
        · rw [qz_v0.2] at z; exact absurd z c0
        · rw [z]; decide
      rw [if_neg hn0]
      have hb : qzM (absF x) < 2 ^ 2098 := by
        rw [a4]
        have e9 : 100000000 * qzO < 2 ^ 2098 := by rw [qzO_eq]; decide +kernel
        have e8 := Nat.mul_le_mul_right qzO hk
        omega
      obtain ⟨r1, r2, r3, r4, r5⟩ := gz_R hp hb
      have hX : 1 ≤ qzM (absF x) := by
        rw [a4]
        rcases qz_sm x with ⟨_, z⟩ | ⟨_, z⟩ <;> omega
      have hu : FP.Core.unitsOf FP.Core.b64 (absF x).toNat = qzM (absF x) := by
        have z := FP.Core.zmag_bits (qz_fn a1)
        rw [Nat.mod_eq_of_lt a3] at z
        exact z.symm
      obtain ⟨n1, n2⟩ := gz_N r1 hX r3 r4 r5 hu
      have hd := gz_d2l r1 n1 r4
      rw [hd.1, gz_sum r2, ← n2]
      by_cases c : x.toNat < 2 ^ 63
      · have hv : 0 ≤ qzV x := FP.Core.zval_nonneg (qz_fn h.1) c
        have hg : 0 ≤ Op.cmpValue (FP.dcmp x FP.dconst0) .g := by
          rcases qz_cmp (qz_fn h.1) qz_v0.1 with ⟨z, _⟩ | ⟨_, z⟩ | ⟨_, z⟩
          · rw [qz_v0.2] at z; omega
          · rw [z]; decide
          · rw [z]; decide
        rw [if_pos hg, a5 c, hxN]
      · obtain ⟨g1, g2, g3⟩ := a6 (by omega)
        have hg : ¬ 0 ≤ Op.cmpValue (FP.dcmp x FP.dconst0) .g := by
          rcases qz_cmp (qz_fn h.1) qz_v0.1 with ⟨_, z⟩ | ⟨z, _⟩ | ⟨z, _⟩
          · rw [z]; decide
          · rw [qz_v0.2] at z; omega
          · rw [qz_v0.2] at z; omega
        rw [if_neg hg]
        show (UInt64.ofNat (absF x).toNat).toInt64 ||| UInt64.toInt64 0x8000000000000000 = x.toInt64
        rw [← UInt64.toInt64_or]
        congr 1
        refine UInt64.toNat.inj ?_
        rw [UInt64.toNat_or, UInt64.ofNat_toNat, g2]
        show (absF x).toNat ||| 2 ^ 63 = _
        rw [Nat.or_comm]
        have z := Nat.two_pow_add_eq_or_of_lt a3 1
        rw [Nat.mul_one] at z
        rw [← z, Nat.add_comm]
