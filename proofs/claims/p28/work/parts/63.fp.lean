/-! Doubles: values in whole units, bounds, signs, zeros. -/
abbrev qzN (a : UInt64) : Prop := FP.Core.val64 a ≠ FP.Core.Datum.nan
abbrev qzF (a : UInt64) : Prop := FP.Core.DFin a
def qzV (a : UInt64) : Int := FP.Core.zval FP.Core.b64 (FP.Core.val64 a)
def qzM (a : UInt64) : Nat := FP.Core.zmag FP.Core.b64 (FP.Core.val64 a)
def qzS (a : UInt64) : Bool := FP.Core.sgn (FP.Core.val64 a)
def qzO : Nat := FP.Core.one64
theorem qzO_pos : 0 < qzO := FP.Core.one64_pos
theorem qz_n64 {a : UInt64} (h : qzN a) : vf_n64 a := by
  unfold vf_n64
  rw [UInt64.le_iff_toNat_le, FP.Core.mask_toNat]
  have e : (0x7ff0000000000000 : UInt64).toNat = 9218868437227405312 := rfl
  rw [e]
  exact (FP.Core.ne_nan a).mp h
theorem qz_fn {a : UInt64} (h : qzF a) : qzN a := FP.Core.DFin.ne_nan h
theorem qz_sm (a : UInt64) : (qzS a = true ∧ qzV a = -(qzM a : Int)) ∨ (qzS a = false ∧ qzV a = (qzM a : Int)) := by
  unfold qzV qzS qzM FP.Core.zval FP.Core.signed
  cases h : FP.Core.sgn (FP.Core.val64 a)
  · exact Or.inr ⟨rfl, if_neg Bool.false_ne_true⟩
  · exact Or.inl ⟨rfl, if_pos rfl⟩
theorem qz_i (x : Int32) : qzF (FP.i2d x) ∧ qzV (FP.i2d x) = x.toInt * (qzO : Int) := ⟨FP.Core.i2d_fin x, FP.Core.DInt_zval (FP.Core.i2d_int x)⟩
theorem qz_neg (a : UInt64) : qzV (FP.Core.dneg a) = -qzV a := by
  unfold qzV; rw [FP.Core.val64_dneg, FP.Core.zval_negate]
theorem qz_negN {a : UInt64} (h : qzN a) : qzN (FP.Core.dneg a) := by
  show FP.Core.val64 _ ≠ _
  rw [FP.Core.val64_dneg]; exact FP.Core.negate_ne_nan h
/-- a double of a whole value -/
theorem qz_k (k : Int) (h1 : -(2 ^ 30) ≤ k) (h2 : k ≤ 2 ^ 30) : ∃ v : UInt64, qzN v ∧ qzV v = k * (qzO : Int) := by
  by_cases c : 0 ≤ k
  · refine ⟨FP.i2d (nI k.toNat), qz_fn (qz_i _).1, ?_⟩
    rw [(qz_i _).2, nI_toInt (by omega), Int.toNat_of_nonneg c]
  · refine ⟨FP.Core.dneg (FP.i2d (nI (-k).toNat)), qz_negN (qz_fn (qz_i _).1), ?_⟩
    rw [qz_neg, (qz_i _).2, nI_toInt (by omega), Int.toNat_of_nonneg (by omega), Int.neg_mul, Int.neg_neg]
theorem qz_fin {a : UInt64} (hn : qzN a) (h1 : -(1099511627776 * (qzO : Int)) ≤ qzV a) (h2 : qzV a ≤ 1099511627776 * (qzO : Int)) : qzF a := by
  cases e : FP.Core.val64 a with
  | nan => exact absurd e hn
  | fin s c q => exact ⟨s, c, q, e⟩
  | inf s =>
    exfalso
    have h3 : qzM a = FP.Core.b64.tails * 2 ^ (FP.Core.b64.exps - 2) := by unfold qzM; rw [e]; rfl
    have h4 : 1099511627776 * qzO < FP.Core.b64.tails * 2 ^ (FP.Core.b64.exps - 2) := by
      unfold qzO
      decide +kernel
    rw [← h3] at h4
    rcases qz_sm a with ⟨_, z⟩ | ⟨_, z⟩ <;> omega
theorem qz_addN {a b : UInt64} (ha : qzF a) (hb : qzF b) : qzN (FP.dadd a b) := (FP.Core.notNaN_iff _).mp (FP.Core.dadd_out (FP.Core.DFin.notNaN ha) hb)
theorem qz_addLe {a b v : UInt64} (ha : qzF a) (hb : qzF b) (hv : qzN v) (h : qzV a + qzV b ≤ qzV v) : qzV (FP.dadd a b) ≤ qzV v := by
  show FP.Core.zval FP.Core.b64 (FP.Core.val64 (FP.Core.dadd a b)) ≤ _
  rw [FP.Core.val64_dadd]
  exact FP.Core.sum_le FP.Core.good_b64 ha hb (FP.Core.val64_fits a) (FP.Core.val64_fits b) (FP.Core.val64_fits v) hv h
theorem qz_addGe {a b v : UInt64} (ha : qzF a) (hb : qzF b) (hv : qzN v) (h : qzV v ≤ qzV a + qzV b) : qzV v ≤ qzV (FP.dadd a b) := by
  show _ ≤ FP.Core.zval FP.Core.b64 (FP.Core.val64 (FP.Core.dadd a b))
  rw [FP.Core.val64_dadd]
  exact FP.Core.sum_ge FP.Core.good_b64 ha hb (FP.Core.val64_fits a) (FP.Core.val64_fits b) (FP.Core.val64_fits v) hv h
/-- a sum between two whole values -/
theorem qz_addB {a b : UInt64} {lo hi : Int} (ha : qzF a) (hb : qzF b) (l1 : -(2 ^ 30) ≤ lo) (l2 : lo ≤ 2 ^ 30) (u1 : -(2 ^ 30) ≤ hi) (u2 : hi ≤ 2 ^ 30) (hl : lo * (qzO : Int) ≤ qzV a + qzV b) (hu : qzV a + qzV b ≤ hi * (qzO : Int)) : qzF (FP.dadd a b) ∧ lo * (qzO : Int) ≤ qzV (FP.dadd a b) ∧ qzV (FP.dadd a b) ≤ hi * (qzO : Int) := by
  obtain ⟨v, v1, v2⟩ := qz_k lo l1 l2
  obtain ⟨w, w1, w2⟩ := qz_k hi u1 u2
  have g1 := qz_addGe ha hb v1 (by rw [v2]; exact hl)
  have g2 := qz_addLe ha hb w1 (by rw [w2]; exact hu)
  rw [v2] at g1
  rw [w2] at g2
  have m1 : (-(2 ^ 30)) * (qzO : Int) ≤ lo * (qzO : Int) := Int.mul_le_mul_of_nonneg_right l1 (Int.natCast_nonneg _)
  have m2 : hi * (qzO : Int) ≤ (2 ^ 30) * (qzO : Int) := Int.mul_le_mul_of_nonneg_right u2 (Int.natCast_nonneg _)
  exact ⟨qz_fin (qz_addN ha hb) (by omega) (by omega), g1, g2⟩
/-- bounded by k ones, and finite -/
def qzB (k : Nat) (a : UInt64) : Prop := qzF a ∧ -((k : Int) * (qzO : Int)) ≤ qzV a ∧ qzV a ≤ (k : Int) * (qzO : Int)
theorem qzB_m {k : Nat} {a : UInt64} (hf : qzF a) : qzB k a ↔ qzM a ≤ k * qzO := by
  have e : ((k * qzO : Nat) : Int) = (k : Int) * (qzO : Int) := Int.natCast_mul k qzO
  unfold qzB
  rw [← e]
  generalize k * qzO = X
  rcases qz_sm a with ⟨_, z⟩ | ⟨_, z⟩
  · exact ⟨fun h => by have h1 := h.2.1; have h2 := h.2.2; omega, fun h => ⟨hf, by omega, by omega⟩⟩
  · exact ⟨fun h => by have h1 := h.2.1; have h2 := h.2.2; omega, fun h => ⟨hf, by omega, by omega⟩⟩
theorem qzB_up {j k : Nat} {a : UInt64} (h : qzB j a) (hk : j ≤ k) : qzB k a := by
  have := Int.mul_le_mul_of_nonneg_right (a := (j : Int)) (b := (k : Int)) (c := (qzO : Int)) (by omega) (Int.natCast_nonneg _)
  exact ⟨h.1, by have := h.2.1; omega, by have := h.2.2; omega⟩
theorem qzB_add {j k : Nat} {a b : UInt64} (ha : qzB j a) (hb : qzB k b) (h : j + k ≤ 1000000000) : qzB (j + k) (FP.dadd a b) := by
  obtain ⟨a1, a2, a3⟩ := ha
  obtain ⟨b1, b2, b3⟩ := hb
  have e : ((j + k : Nat) : Int) * (qzO : Int) = (j : Int) * (qzO : Int) + (k : Int) * (qzO : Int) := by rw [Int.natCast_add, Int.add_mul]
  have h2 := qz_addB (lo := -((j + k : Nat) : Int)) (hi := ((j + k : Nat) : Int)) a1 b1 (by omega) (by omega) (by omega) (by omega) (by rw [Int.neg_mul, e]; omega) (by rw [e]; omega)
  rw [Int.neg_mul] at h2
  exact h2
theorem qz_mulN {a b : UInt64} (ha : qzF a) (hb : qzF b) : qzN (FP.dmul a b) := (FP.Core.notNaN_iff _).mp (FP.Core.dmul_out ha hb)
theorem qz_mulM {a b v : UInt64} (ha : qzF a) (hb : qzF b) (hv : qzN v) (h : qzM a * qzM b ≤ qzM v * qzO) : qzM (FP.dmul a b) ≤ qzM v := by
  obtain ⟨s, c, q, ea⟩ := ha
  obtain ⟨t, d, r, eb⟩ := hb
  have fa := FP.Core.val64_fits a
  have fb := FP.Core.val64_fits b
  rw [ea] at fa
  rw [eb] at fb
  obtain ⟨p1, p2, p3⟩ := FP.Core.product_units fa fb
  show FP.Core.zmag FP.Core.b64 (FP.Core.val64 (FP.Core.dmul a b)) ≤ _
  rw [FP.Core.val64_dmul, ea, eb, p1]
  show FP.Core.zmag FP.Core.b64 (FP.Core.roundRatio FP.Core.b64 (s != t) (c * d) 1 (q + r)) ≤ FP.Core.zmag FP.Core.b64 (FP.Core.val64 v)
  refine FP.Core.zmag_roundRatio_le FP.Core.good_b64 (e0 := 2 * FP.Core.b64.qmin) (by decide) (FP.Core.val64_fits v) hv ?_ p2 ?_
  · have := FP.Core.qmin_neg FP.Core.good_b64; omega
  · have e : (FP.Core.b64.qmin - 2 * FP.Core.b64.qmin).toNat = (-FP.Core.b64.qmin).toNat := by rw [show FP.Core.b64.qmin - 2 * FP.Core.b64.qmin = -FP.Core.b64.qmin by omega]
    rw [p3, Nat.mul_one, e, FP.Core.pow_qmin64]
    unfold qzM at h
    rw [ea, eb] at h
    exact h
theorem qz_mulS {a b : UInt64} (ha : qzF a) (hb : qzF b) : qzS (FP.dmul a b) = (qzS a != qzS b) := by
  obtain ⟨s, c, q, ea⟩ := ha
  obtain ⟨t, d, r, eb⟩ := hb
  show FP.Core.sgn (FP.Core.val64 (FP.Core.dmul a b)) = (FP.Core.sgn (FP.Core.val64 a) != FP.Core.sgn (FP.Core.val64 b))
  rw [FP.Core.val64_dmul, ea, eb]
  exact FP.Core.sgn_roundRatio FP.Core.b64 (s != t) (c * d) 1 (q + r)
theorem qzB_mul {j k : Nat} {a b : UInt64} (ha : qzB j a) (hb : qzB k b) (h : j * k ≤ 2000000000) : qzN (FP.dmul a b) ∧ qzM (FP.dmul a b) ≤ j * k * qzO := by
  refine ⟨qz_mulN ha.1 hb.1, ?_⟩
  have e := qz_i (nI (j * k))
  rw [nI_toInt (by omega)] at e
  have e2 : qzM (FP.i2d (nI (j * k))) = j * k * qzO := by
    have e3 : ((j * k * qzO : Nat) : Int) = ((j * k : Nat) : Int) * (qzO : Int) := Int.natCast_mul (j * k) qzO
    have key := e.2
    rw [← e3] at key
    generalize j * k * qzO = X at key ⊢
    rcases qz_sm (FP.i2d (nI (j * k))) with ⟨_, z⟩ | ⟨_, z⟩ <;> omega
  rw [← e2]
  refine qz_mulM ha.1 hb.1 (qz_fn e.1) ?_
  rw [e2]
  have m := Nat.mul_le_mul ((qzB_m ha.1).mp ha) ((qzB_m hb.1).mp hb)
  rw [Nat.mul_mul_mul_comm] at m
  rw [Nat.mul_assoc]
  exact m
/-- a quotient by a whole number -/
theorem qz_div {a b : UInt64} {n k : Nat} (ha : qzF a) (hb : FP.Core.val64 b = FP.Core.Datum.fin false (n * 2 ^ k) (-(k : Int))) (hn : 0 < n) : qzN (FP.ddiv a b) ∧ qzS (FP.ddiv a b) = qzS a ∧ ∀ v, qzN v → qzM a ≤ qzM v * n → qzM (FP.ddiv a b) ≤ qzM v := by
  obtain ⟨s, c, q, ea⟩ := ha
  have hd : n * 2 ^ k ≠ 0 := Nat.ne_of_gt (Nat.mul_pos hn (Nat.two_pow_pos k))
  have hs : (s != false) = s := by cases s <;> rfl
  have e : FP.Core.val64 (FP.ddiv a b) = FP.Core.roundRatio FP.Core.b64 s c (n * 2 ^ k) (q - -(k : Int)) := by
    show FP.Core.val64 (FP.Core.ddiv a b) = _
    rw [FP.Core.val64_ddiv, ea, hb]
    show (if n * 2 ^ k = 0 then (if c = 0 then FP.Core.Datum.nan else FP.Core.Datum.inf (s != false)) else FP.Core.roundRatio FP.Core.b64 (s != false) c (n * 2 ^ k) (q - -(k : Int))) = _
    rw [if_neg hd, hs]
  have fa := FP.Core.val64_fits a
  rw [ea] at fa
  have fq : FP.Core.b64.qmin ≤ q := fa.2.1
  refine ⟨?_, ?_, fun v hv h => ?_⟩
  · show FP.Core.val64 _ ≠ _
    rw [e]; exact FP.Core.roundRatio_ne_nan _ _ _ _ _
  · show FP.Core.sgn (FP.Core.val64 (FP.ddiv a b)) = FP.Core.sgn (FP.Core.val64 a)
    rw [e, ea]; exact FP.Core.sgn_roundRatio _ _ _ _ _
  · show FP.Core.zmag FP.Core.b64 (FP.Core.val64 (FP.ddiv a b)) ≤ FP.Core.zmag FP.Core.b64 (FP.Core.val64 v)
    rw [e]
    refine FP.Core.zmag_roundRatio_le FP.Core.good_b64 (e0 := FP.Core.b64.qmin) (Nat.pos_of_ne_zero hd) (FP.Core.val64_fits v) hv (Int.le_refl _) (by omega) ?_
    unfold qzM at h
    rw [ea] at h
    have e2 : FP.Core.inUnits c (q - -(k : Int)) FP.Core.b64.qmin = FP.Core.zmag FP.Core.b64 (FP.Core.Datum.fin s c q) * 2 ^ k := by
      show c * 2 ^ (q - -(k : Int) - FP.Core.b64.qmin).toNat = c * 2 ^ (q - FP.Core.b64.qmin).toNat * 2 ^ k
      rw [show (q - -(k : Int) - FP.Core.b64.qmin).toNat = (q - FP.Core.b64.qmin).toNat + k by omega, Nat.pow_add, Nat.mul_assoc]
    rw [e2, show (FP.Core.b64.qmin - FP.Core.b64.qmin).toNat = 0 by omega, Nat.pow_zero, Nat.mul_one, ← Nat.mul_assoc]
    exact Nat.mul_le_mul_right _ h
theorem qzB_div {a b : UInt64} {n k M : Nat} (ha : qzF a) (hb : FP.Core.val64 b = FP.Core.Datum.fin false (n * 2 ^ k) (-(k : Int))) (hn : 0 < n) (hM : M ≤ 1000000000) (h : qzM a ≤ M * n * qzO) : qzB M (FP.ddiv a b) := by
  obtain ⟨d1, d2, d3⟩ := qz_div ha hb hn
  have e := qz_i (nI M)
  rw [nI_toInt (by omega)] at e
  have e2 : qzM (FP.i2d (nI M)) = M * qzO := by
    have e3 : ((M * qzO : Nat) : Int) = (M : Int) * (qzO : Int) := Int.natCast_mul M qzO
    have key := e.2
    rw [← e3] at key
    generalize M * qzO = X at key ⊢
    rcases qz_sm (FP.i2d (nI M)) with ⟨_, z⟩ | ⟨_, z⟩ <;> omega
  have h2 := d3 _ (qz_fn e.1) (by rw [e2, Nat.mul_right_comm]; exact h)
  rw [e2] at h2
  have e3 : ((M * qzO : Nat) : Int) = (M : Int) * (qzO : Int) := Int.natCast_mul M qzO
  have m2 : (M : Int) * (qzO : Int) ≤ 1000000000 * (qzO : Int) := Int.mul_le_mul_of_nonneg_right (by omega) (Int.natCast_nonneg _)
  have h3 : (qzM (FP.ddiv a b) : Int) ≤ 1000000000 * (qzO : Int) := Int.le_trans (by rw [← e3]; exact Int.ofNat_le.mpr h2) m2
  have hf : qzF (FP.ddiv a b) := by
    refine qz_fin d1 ?_ ?_ <;> rcases qz_sm (FP.ddiv a b) with ⟨_, z⟩ | ⟨_, z⟩ <;> omega
  exact (qzB_m hf).mpr h2
theorem qz_100 : FP.Core.val64 4636737291354636288 = FP.Core.Datum.fin false (100 * 2 ^ 46) (-((46 : Nat) : Int)) := by decide +kernel
theorem qz_5400 : FP.Core.val64 4662659377491083264 = FP.Core.Datum.fin false (5400 * 2 ^ 40) (-((40 : Nat) : Int)) := by decide +kernel
theorem qz_half : qzF 4602678819172646912 ∧ 2 * qzV 4602678819172646912 = (qzO : Int) := by
  refine ⟨⟨false, 2 ^ 52, -53, by decide +kernel⟩, ?_⟩
  show 2 * FP.Core.zval FP.Core.b64 (FP.Core.val64 4602678819172646912) = ((FP.Core.one64 : Nat) : Int)
  decide +kernel
theorem qz_zero : qzB 0 FP.dconst0 := by
  have e : qzV FP.dconst0 = 0 := FP.Core.zval64_zero
  refine ⟨⟨false, 0, _, FP.Core.val64_zero⟩, ?_, ?_⟩ <;> rw [e] <;> simp
