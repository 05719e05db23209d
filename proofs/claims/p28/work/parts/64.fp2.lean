/-! Rounding, lessons, misses: how great they are. -/
theorem qz_cmp {a b : UInt64} (ha : qzN a) (hb : qzN b) : (qzV a < qzV b ∧ FP.dcmp a b = some .lt) ∨ (qzV a = qzV b ∧ FP.dcmp a b = some .eq) ∨ (qzV b < qzV a ∧ FP.dcmp a b = some .gt) := by
  have e : FP.dcmp a b = some (compare (qzV a) (qzV b)) := FP.Core.dcmp_zval ha hb
  rw [e]
  rcases Int.lt_trichotomy (qzV a) (qzV b) with h | h | h
  · exact Or.inl ⟨h, congrArg some ((FP.Core.compare_lt_iff _ _).mpr h)⟩
  · exact Or.inr (Or.inl ⟨h, congrArg some ((FP.Core.compare_eq_iff _ _).mpr h)⟩)
  · exact Or.inr (Or.inr ⟨h, congrArg some ((FP.Core.compare_gt_iff _ _).mpr h)⟩)
theorem qz_v0 : qzN FP.dconst0 ∧ qzV FP.dconst0 = 0 := ⟨qz_fn qz_zero.1, FP.Core.zval64_zero⟩
theorem qz_le {p k : Int} (h : p * (qzO : Int) ≤ k * (qzO : Int)) : p ≤ k := Int.le_of_mul_le_mul_right h (by have := qzO_pos; omega)
theorem qz_lt {p k : Int} (h : p * (qzO : Int) < k * (qzO : Int)) : p < k := Int.lt_of_mul_lt_mul_right h (Int.natCast_nonneg _)
/-- the whole part of a double that is 0 or more -/
theorem qz_d2i {y : UInt64} (hy : qzF y) (h0 : 0 ≤ qzV y) (h1 : qzV y ≤ 1000000000 * (qzO : Int)) : ∃ p : Nat, p ≤ 1000000000 ∧ (FP.d2i y).toInt = (p : Int) ∧ (p : Int) * (qzO : Int) ≤ qzV y ∧ qzV y < (p : Int) * (qzO : Int) + (qzO : Int) := by
  have e : (FP.d2i y).toInt = max (-2 ^ 31) (min (2 ^ 31 - 1) (FP.Core.signed (qzS y) (qzM y / qzO))) := FP.Core.d2i_val (qz_fn hy)
  have hO := qzO_pos
  have hd := Nat.div_add_mod (qzM y) qzO
  have hm := Nat.mod_lt (qzM y) hO
  have hV : qzV y = (qzM y : Int) := by rcases qz_sm y with ⟨_, z⟩ | ⟨_, z⟩ <;> omega
  have hs : FP.Core.signed (qzS y) (qzM y / qzO) = ((qzM y / qzO : Nat) : Int) := by
    rcases qz_sm y with ⟨s, z⟩ | ⟨s, z⟩
    · have h2 : qzM y = 0 := by omega
      rw [h2, Nat.zero_div]; exact FP.Core.signed_zero _
    · rw [s]; rfl
  rw [hs] at e
  generalize qzM y / qzO = n at hd e
  generalize qzM y % qzO = r at hd hm
  have ec : ((n * qzO : Nat) : Int) = (n : Int) * (qzO : Int) := Int.natCast_mul _ _
  have hd2 : (n : Int) * (qzO : Int) + (r : Int) = qzV y := by
    rw [hV, ← ec, ← Int.natCast_add, Nat.mul_comm n qzO, hd]
  have hp : n ≤ 1000000000 := by
    have := qz_le (p := (n : Int)) (k := 1000000000) (by omega)
    omega
  exact ⟨n, hp, by omega, by omega, by omega⟩
theorem qz_ineg {x : Int32} (h : -(2 ^ 30) ≤ x.toInt ∧ x.toInt ≤ 2 ^ 30) : (-x).toInt = -x.toInt := by
  rw [Int32.toInt_neg]; exact Int.bmod_eq_of_le (by omega) (by omega)
theorem qz_negF {a : UInt64} (h : qzF a) : qzF (FP.Core.dneg a) := by
  obtain ⟨s, c, q, e⟩ := h
  exact ⟨!s, c, q, by rw [FP.Core.val64_dneg, e]; rfl⟩
/-- p is near c -/
def qzR (c : UInt64) (p : Int) : Prop := qzV c - 2 * (qzO : Int) ≤ p * (qzO : Int) ∧ p * (qzO : Int) ≤ qzV c + 2 * (qzO : Int)
theorem qz_up {c : UInt64} {B : Nat} (hB : B ≤ 100000000) (hf : qzF c) (h0 : 0 ≤ qzV c) (h1 : qzV c ≤ (B : Int) * (qzO : Int)) : qzF (FP.dadd c 4602678819172646912) ∧ qzV c ≤ qzV (FP.dadd c 4602678819172646912) ∧ qzV (FP.dadd c 4602678819172646912) ≤ qzV c + 2 * (qzO : Int) := by
  have hO := qzO_pos
  have hh := qz_half
  have hn : qzV c / (qzO : Int) * (qzO : Int) ≤ qzV c := Int.ediv_mul_le _ (by omega)
  have hn2 : qzV c < (qzV c / (qzO : Int) + 1) * (qzO : Int) := Int.lt_ediv_add_one_mul_self _ (by omega)
  have hn0 : 0 ≤ qzV c / (qzO : Int) := Int.ediv_nonneg h0 (by omega)
  generalize qzV c / (qzO : Int) = n at hn hn2 hn0
  have hnB : n ≤ B := qz_le (by omega)
  rw [Int.add_mul] at hn2
  have e2 : (n + 2) * (qzO : Int) = n * (qzO : Int) + 2 * (qzO : Int) := Int.add_mul _ _ _
  have h := qz_addB (lo := 0) (hi := n + 2) hf hh.1 (by omega) (by omega) (by omega) (by omega) (by omega) (by omega)
  have g := qz_addGe hf hh.1 (qz_fn hf) (by omega)
  exact ⟨h.1, g, by omega⟩
theorem rnd_ok {c : UInt64} {B : Nat} (hB : B ≤ 100000000) (h : qzB B c) : qzR c (rndF c).toInt ∧ -((B : Int) + 2) ≤ (rndF c).toInt ∧ (rndF c).toInt ≤ (B : Int) + 2 := by
  have hO := qzO_pos
  obtain ⟨hf, l, u⟩ := h
  have key : qzR c (rndF c).toInt := by
    unfold rndF qzR
    have hB2 : (B : Int) * (qzO : Int) ≤ 100000000 * (qzO : Int) := Int.mul_le_mul_of_nonneg_right (by omega) (Int.natCast_nonneg _)
    by_cases c0 : qzV c < 0
    · have e : FP.dcmp c FP.dconst0 = some .lt := by
        rcases qz_cmp (qz_fn hf) qz_v0.1 with ⟨_, z⟩ | ⟨z, _⟩ | ⟨z, _⟩
        · exact z
        · rw [qz_v0.2] at z; omega
        · rw [qz_v0.2] at z; omega
      rw [e, if_pos (by decide)]
      have ed : FP.dsub 4602678819172646912 c = FP.dadd (FP.Core.dneg c) 4602678819172646912 := (FP.Core.dsub_eq _ _).trans (FP.Core.dadd_comm _ _)
      rw [ed]
      have hv := qz_neg c
      obtain ⟨a1, a2, a3⟩ := qz_up (c := FP.Core.dneg c) hB (qz_negF hf) (by omega) (by omega)
      obtain ⟨p, p1, p2, p3, p4⟩ := qz_d2i a1 (by omega) (by omega)
      rw [qz_ineg (by omega), p2, Int.neg_mul]
      exact ⟨by omega, by omega⟩
    · have e : ¬ Op.cmpValue (FP.dcmp c FP.dconst0) .l < 0 := by
        rcases qz_cmp (qz_fn hf) qz_v0.1 with ⟨z, _⟩ | ⟨_, z⟩ | ⟨_, z⟩
        · rw [qz_v0.2] at z; exact absurd z c0
        · rw [z]; decide
        · rw [z]; decide
      rw [if_neg e]
      obtain ⟨a1, a2, a3⟩ := qz_up hB hf (by omega) u
      obtain ⟨p, p1, p2, p3, p4⟩ := qz_d2i a1 (by omega) (by omega)
      rw [p2]
      exact ⟨by omega, by omega⟩
  refine ⟨key, qz_le ?_, qz_le ?_⟩
  · have := key.1; rw [Int.neg_mul, Int.add_mul]; omega
  · have := key.2; rw [Int.add_mul]; omega
/-- not the negative zero -/
def qzZ (a : UInt64) : Prop := a ≠ 0x8000000000000000
theorem qz_addZ {a b : UInt64} (ha : qzF a) (hb : qzF b) (hz : qzZ a) : qzZ (FP.dadd a b) := fun h => by
  have e : FP.Core.val64 (FP.dadd a b) = FP.Core.Datum.fin true 0 FP.Core.b64.qmin := by rw [h]; exact FP.Core.val64_dzeroNeg
  have v0 : qzV (FP.dadd a b) = 0 := by unfold qzV; rw [e]; simp [FP.Core.zval, FP.Core.sgn, FP.Core.zmag, FP.Core.inUnits, FP.Core.signed]
  have one : qzN 1 ∧ qzV 1 = 1 := ⟨by show FP.Core.val64 1 ≠ _; decide +kernel, by show FP.Core.zval FP.Core.b64 (FP.Core.val64 1) = 1; decide +kernel⟩
  have mon : qzN 0x8000000000000001 ∧ qzV 0x8000000000000001 = -1 := ⟨by show FP.Core.val64 0x8000000000000001 ≠ _; decide +kernel, by show FP.Core.zval FP.Core.b64 (FP.Core.val64 0x8000000000000001) = -1; decide +kernel⟩
  have c1 : ¬ 1 ≤ qzV a + qzV b := fun z => by have := qz_addGe ha hb one.1 (by rw [one.2]; exact z); rw [one.2] at this; omega
  have c2 : ¬ qzV a + qzV b ≤ -1 := fun z => by have := qz_addLe ha hb mon.1 (by rw [mon.2]; exact z); rw [mon.2] at this; omega
  have c3 : qzV a + qzV b = 0 := by omega
  have nA := qz_fn ha
  obtain ⟨s, c, q, ea⟩ := ha
  obtain ⟨t, d, r, eb⟩ := hb
  have fa := FP.Core.val64_fits a
  have fb := FP.Core.val64_fits b
  rw [ea] at fa
  rw [eb] at fb
  have c4 : FP.Core.zval FP.Core.b64 (FP.Core.Datum.fin s c q) + FP.Core.zval FP.Core.b64 (FP.Core.Datum.fin t d r) = 0 := by
    unfold qzV at c3; rw [ea, eb] at c3; exact c3
  obtain ⟨sg, n, e2, h1, h2, h3⟩ := FP.Core.sum_units fa fb
  have hr : FP.Core.roundRatio FP.Core.b64 sg n 1 e2 = FP.Core.Datum.fin true 0 FP.Core.b64.qmin := by
    rw [← e]
    show _ = FP.Core.val64 (FP.Core.dadd a b)
    rw [FP.Core.val64_dadd, ea, eb, h1]; rfl
  have hs : sg = true := by
    have := FP.Core.sgn_roundRatio FP.Core.b64 sg n 1 e2
    rw [hr] at this; exact this.symm
  rw [c4] at h3
  have hn : n = 0 := by
    have z := (FP.Core.signed_eq_zero _ _).mp h3
    unfold FP.Core.inUnits at z
    rcases Nat.mul_eq_zero.mp z with z | z
    · exact z
    · exact absurd z (Nat.ne_of_gt (Nat.two_pow_pos _))
  have h4 : FP.Core.Datum.fin (FP.Core.sumSign s t (FP.Core.sumUnits s c q t d r (min q r))) (FP.Core.sumUnits s c q t d r (min q r)).natAbs (min q r) = FP.Core.Datum.fin sg n e2 := h1
  injection h4 with h5 h6 h7
  have h8 : FP.Core.sumUnits s c q t d r (min q r) = 0 := by omega
  rw [h8, hs] at h5
  have h9 : (s && t) = true := h5
  have hst : s = true ∧ t = true := by cases s <;> cases t <;> simp at h9 ⊢
  obtain ⟨rfl, rfl⟩ := hst
  have h10 : c = 0 := by
    have z : FP.Core.inUnits c q FP.Core.b64.qmin = 0 := by
      have z2 : -((FP.Core.inUnits c q FP.Core.b64.qmin : Nat) : Int) + -((FP.Core.inUnits d r FP.Core.b64.qmin : Nat) : Int) = 0 := c4
      omega
    unfold FP.Core.inUnits at z
    rcases Nat.mul_eq_zero.mp z with z | z
    · exact z
    · exact absurd z (Nat.ne_of_gt (Nat.two_pow_pos _))
  subst h10
  have hq := FP.Core.fits_zero_q FP.Core.good_b64 fa
  exact hz (FP.Core.val64_inj nA (by rw [ea, hq]; exact FP.Core.val64_dzeroNeg.symm))
theorem qz_iZ (x : Int32) : qzZ (FP.i2d x) := fun h => by
  have e := (qz_i x).2
  have v0 : qzV (FP.i2d x) = 0 := by
    have z : FP.Core.val64 (FP.i2d x) = FP.Core.Datum.fin true 0 FP.Core.b64.qmin := by rw [h]; exact FP.Core.val64_dzeroNeg
    unfold qzV; rw [z]; simp [FP.Core.zval, FP.Core.sgn, FP.Core.zmag, FP.Core.inUnits, FP.Core.signed]
  have hO := qzO_pos
  have hx : x.toInt = 0 := by
    rw [v0] at e
    rcases Int.mul_eq_zero.mp e.symm with z | z
    · exact z
    · omega
  have hx2 : x = 0 := Int32.toInt_inj.mp hx
  rw [hx2] at h
  exact absurd h (by decide +kernel)
theorem qzB_i {x : Int32} {k : Nat} (h : -(k : Int) ≤ x.toInt ∧ x.toInt ≤ (k : Int)) : qzB k (FP.i2d x) := by
  have e := qz_i x
  have m1 : -(k : Int) * (qzO : Int) ≤ x.toInt * (qzO : Int) := Int.mul_le_mul_of_nonneg_right h.1 (Int.natCast_nonneg _)
  have m2 : x.toInt * (qzO : Int) ≤ (k : Int) * (qzO : Int) := Int.mul_le_mul_of_nonneg_right h.2 (Int.natCast_nonneg _)
  rw [Int.neg_mul] at m1
  exact ⟨e.1, by rw [e.2]; exact m1, by rw [e.2]; exact m2⟩
theorem qzB_mulB {j k : Nat} {a b : UInt64} (ha : qzB j a) (hb : qzB k b) (h : j * k ≤ 2000000000) : qzF (FP.dmul a b) ∧ qzM (FP.dmul a b) ≤ j * k * qzO := by
  have hm := qzB_mul ha hb h
  refine ⟨?_, hm.2⟩
  have e : ((j * k * qzO : Nat) : Int) = ((j * k : Nat) : Int) * (qzO : Int) := Int.natCast_mul _ _
  have m : ((j * k : Nat) : Int) * (qzO : Int) ≤ 2000000000 * (qzO : Int) := Int.mul_le_mul_of_nonneg_right (by omega) (Int.natCast_nonneg _)
  have h3 : (qzM (FP.dmul a b) : Int) ≤ 2000000000 * (qzO : Int) := Int.le_trans (by rw [← e]; exact Int.ofNat_le.mpr hm.2) m
  refine qz_fin hm.1 ?_ ?_ <;> rcases qz_sm (FP.dmul a b) with ⟨_, z⟩ | ⟨_, z⟩ <;> omega
/-- what a lesson adds -/
def lsF (m : UInt64) (rt : Int32) : UInt64 := FP.ddiv (FP.dmul m (FP.i2d rt)) 4636737291354636288
theorem qz_ls {m : UInt64} {rt : Int32} {M : Nat} (hM : M ≤ 20000000) (hm : qzB M m) (hr : 1 ≤ rt.toInt ∧ rt.toInt ≤ 100) : qzB M (lsF m rt) ∧ qzS (lsF m rt) = qzS m ∧ qzN (FP.dmul m (FP.i2d rt)) := by
  have hb := qzB_i (x := rt) (k := 100) (by omega)
  have h1 := qzB_mulB hm hb (by omega)
  have h2 := qz_div h1.1 qz_100 (by decide)
  refine ⟨qzB_div h1.1 qz_100 (by decide) (by omega) h1.2, ?_, qz_fn h1.1⟩
  have hS : qzS (FP.i2d rt) = false := by
    have hO := qzO_pos
    have e := (qz_i rt).2
    have m1 : 1 * (qzO : Int) ≤ rt.toInt * (qzO : Int) := Int.mul_le_mul_of_nonneg_right hr.1 (Int.natCast_nonneg _)
    rcases qz_sm (FP.i2d rt) with ⟨_, z⟩ | ⟨z, _⟩
    · omega
    · exact z
  show qzS (FP.ddiv _ _) = _
  rw [h2.2.1, qz_mulS hm.1 hb.1, hS]
  cases qzS m <;> rfl
theorem qz_lsP {m : UInt64} {rt : Int32} {M : Nat} (hM : M ≤ 20000000) (hm : qzB M m) (hr : 1 ≤ rt.toInt ∧ rt.toInt ≤ 100) : (0 ≤ qzV m → 0 ≤ qzV (lsF m rt)) ∧ (qzV m ≤ 0 → qzV (lsF m rt) ≤ 0) := by
  have h := qz_ls hM hm hr
  by_cases z0 : qzV m = 0
  · have h0 := (qz_ls (M := 0) (by decide) ⟨hm.1, by rw [z0]; simp, by rw [z0]; simp⟩ hr).1
    have h1 := h0.2.1
    have h2 := h0.2.2
    simp at h1 h2
    exact ⟨fun _ => by omega, fun _ => by omega⟩
  · rcases qz_sm m with ⟨s, z⟩ | ⟨s, z⟩ <;> rcases qz_sm (lsF m rt) with ⟨s2, z2⟩ | ⟨s2, z2⟩
    · exact ⟨fun _ => by omega, fun _ => by omega⟩
    · rw [h.2.1, s] at s2; cases s2
    · rw [h.2.1, s] at s2; cases s2
    · exact ⟨fun _ => by omega, fun _ => by omega⟩
/-- how a miss m hangs together with the correction c that held for it -/
def qzL (c m : UInt64) : Prop := ∃ p e : Int, qzR c p ∧ ((0 ≤ e ∧ e ≤ -p) ∨ (-p ≤ e ∧ e ≤ 0)) ∧ (e - 240) * (qzO : Int) ≤ qzV m ∧ qzV m ≤ (e + 240) * (qzO : Int)
theorem tch_ok {c m : UInt64} {rt : Int32} {B : Nat} (hB : B ≤ 19000000) (hc : qzB B c) (hm : qzF m) (hr : 1 ≤ rt.toInt ∧ rt.toInt ≤ 100) (hL : qzL c m) : qzB (B + 242) (tchF c m rt) := by
  have hO := qzO_pos
  obtain ⟨p, e, ⟨r1, r2⟩, he, m1, m2⟩ := hL
  obtain ⟨cf, c1, c2⟩ := hc
  have hp1 : p ≤ (B : Int) + 2 := qz_le (by rw [Int.add_mul]; omega)
  have hp2 : -((B : Int) + 2) ≤ p := qz_le (by rw [Int.neg_mul, Int.add_mul]; omega)
  rw [Int.sub_mul] at m1
  rw [Int.add_mul] at m2
  have eB : ((B + 242 : Nat) : Int) * (qzO : Int) = (B : Int) * (qzO : Int) + 242 * (qzO : Int) := by rw [Int.natCast_add, Int.add_mul]; rfl
  show qzB (B + 242) (FP.dadd c (lsF m rt))
  have main : qzF (lsF m rt) ∧ -(((B + 242 : Nat) : Int) * (qzO : Int)) ≤ qzV c + qzV (lsF m rt) ∧ qzV c + qzV (lsF m rt) ≤ ((B + 242 : Nat) : Int) * (qzO : Int) := by
    by_cases z : 0 < qzV m
    · have h240 : 0 < e + 240 := qz_lt (by rw [Int.add_mul]; omega)
      have eM : ((e + 240).toNat : Int) = e + 240 := Int.toNat_of_nonneg (by omega)
      have hMm : qzB (e + 240).toNat m := ⟨hm, by rw [eM, Int.add_mul]; omega, by rw [eM, Int.add_mul]; omega⟩
      have h := qz_ls (by omega) hMm hr
      have h2 := (qz_lsP (by omega) hMm hr).1 (by omega)
      have h3 := h.1.2.2
      rw [eM, Int.add_mul] at h3
      refine ⟨h.1.1, by omega, ?_⟩
      rcases he with ⟨k1, k2⟩ | ⟨k1, k2⟩
      · have k3 : e * (qzO : Int) ≤ -p * (qzO : Int) := Int.mul_le_mul_of_nonneg_right k2 (Int.natCast_nonneg _)
        rw [Int.neg_mul] at k3
        omega
      · have k3 : e * (qzO : Int) ≤ 0 * (qzO : Int) := Int.mul_le_mul_of_nonneg_right k2 (Int.natCast_nonneg _)
        omega
    · have h240 : e - 240 ≤ 0 := qz_le (by rw [Int.sub_mul]; omega)
      have eM : ((240 - e).toNat : Int) = 240 - e := Int.toNat_of_nonneg (by omega)
      have hMm : qzB (240 - e).toNat m := ⟨hm, by rw [eM, Int.sub_mul]; omega, by rw [eM, Int.sub_mul]; omega⟩
      have h := qz_ls (by omega) hMm hr
      have h2 := (qz_lsP (by omega) hMm hr).2 (by omega)
      have h3 := h.1.2.1
      rw [eM, Int.sub_mul] at h3
      refine ⟨h.1.1, ?_, by omega⟩
      rcases he with ⟨k1, k2⟩ | ⟨k1, k2⟩
      · have k3 : 0 * (qzO : Int) ≤ e * (qzO : Int) := Int.mul_le_mul_of_nonneg_right k1 (Int.natCast_nonneg _)
        omega
      · have k3 : -p * (qzO : Int) ≤ e * (qzO : Int) := Int.mul_le_mul_of_nonneg_right k1 (Int.natCast_nonneg _)
        rw [Int.neg_mul] at k3
        omega
  have h2 := qz_addB (lo := -((B + 242 : Nat) : Int)) (hi := ((B + 242 : Nat) : Int)) cf main.1 (by omega) (by omega) (by omega) (by omega) (by rw [Int.neg_mul]; exact main.2.1) main.2.2
  rw [Int.neg_mul] at h2
  exact h2
/-- a lesson makes no NaN -/
theorem tch_n {c m : UInt64} {rt : Int32} (hc : qzF c) (hm : qzF m) : tchOK c m rt := by
  have h1 := qz_mulN hm (qz_i rt).1
  have h2 : qzN (FP.ddiv (FP.dmul m (FP.i2d rt)) 4636737291354636288) := by
    refine (FP.Core.notNaN_iff _).mp (FP.Core.ddiv_out ((FP.Core.notNaN_iff _).mpr h1) ⟨false, _, _, qz_100⟩ ?_)
    intro z
    have z2 := (FP.Core.zero_bits2 _).mp z
    exact absurd z2 (by decide)
  exact ⟨qz_n64 h1, qz_n64 h2, qz_n64 ((FP.Core.notNaN_iff _).mp (FP.Core.dadd_out' hc ((FP.Core.notNaN_iff _).mpr h2)))⟩
theorem bn_ok {pp : Nat → Int32} {i : Nat} {h : Int32} (h0 : -120 ≤ (pp (5 + i)).toInt ∧ (pp (5 + i)).toInt ≤ 120) (h1 : -120 ≤ (pp (5 + (i + 1))).toInt ∧ (pp (5 + (i + 1))).toInt ≤ 120) (hh : 0 ≤ h.toInt ∧ h.toInt ≤ 5400) : bnOK pp i h ∧ qzB 240 (bnF pp i h) := by
  have b0 := qzB_i (x := pp (5 + i)) (k := 120) (by omega)
  have b1 := qzB_i (x := pp (5 + (i + 1))) (k := 120) (by omega)
  have b2 := qzB_i (x := h) (k := 5400) (by omega)
  have m := qzB_mulB b1 b2 (by decide)
  have d := qzB_div (M := 120) m.1 qz_5400 (by decide) (by decide) m.2
  have a := qzB_add b0 d (by decide)
  exact ⟨⟨qz_n64 (qz_fn m.1), qz_n64 (qz_fn d.1), qz_n64 (qz_fn a.1)⟩, a⟩
theorem mis_ok {e : Int32} {b : UInt64} (he : -(2 ^ 28) ≤ e.toInt ∧ e.toInt ≤ 2 ^ 28) (hb : qzB 240 b) : qzF (FP.dadd (FP.i2d e) b) ∧ ((e.toInt - 240) * (qzO : Int) ≤ qzV (FP.dadd (FP.i2d e) b) ∧ qzV (FP.dadd (FP.i2d e) b) ≤ (e.toInt + 240) * (qzO : Int)) ∧ qzZ (FP.dadd (FP.i2d e) b) := by
  have h := qz_i e
  obtain ⟨b1, b2, b3⟩ := hb
  have b4 : ((240 : Nat) : Int) * (qzO : Int) = 240 * (qzO : Int) := rfl
  have g := qz_addB (lo := e.toInt - 240) (hi := e.toInt + 240) h.1 b1 (by omega) (by omega) (by omega) (by omega) (by rw [Int.sub_mul, h.2]; omega) (by rw [Int.add_mul, h.2]; omega)
  exact ⟨g.1, g.2, qz_addZ h.1 b1 (qz_iZ e)⟩
/-! without the sign -/
theorem abs_ok {x : UInt64} (hf : qzF x) (hz : qzZ x) : qzF (absF x) ∧ qzZ (absF x) ∧ (absF x).toNat < 2 ^ 63 ∧ qzM (absF x) = qzM x ∧ (x.toNat < 2 ^ 63 → absF x = x) ∧ (2 ^ 63 ≤ x.toNat → absF x = FP.Core.dneg x ∧ x.toNat = (absF x).toNat + 2 ^ 63 ∧ qzV x < 0) := by
  have hn := qz_fn hf
  have hxl := x.toNat_lt
  have big : ∀ y : UInt64, y.toNat < 2 ^ 63 → qzZ y := fun y h e => by rw [e] at h; exact absurd h (by decide)
  by_cases c : x.toNat < 2 ^ 63
  · have hv : 0 ≤ qzV x := FP.Core.zval_nonneg hn c
    have e : absF x = x := by
      unfold absF
      refine if_pos ?_
      rcases qz_cmp hn qz_v0.1 with ⟨z, _⟩ | ⟨_, z⟩ | ⟨_, z⟩
      · rw [qz_v0.2] at z; omega
      · rw [z]; decide
      · rw [z]; decide
    rw [e]
    exact ⟨hf, hz, c, rfl, fun _ => rfl, fun z => absurd c (by omega)⟩
  · have c2 : 2 ^ 63 ≤ x.toNat := by omega
    have hv : qzV x ≤ 0 := FP.Core.zval_nonpos hn c2
    have hv2 : qzV x ≠ 0 := fun z => by
      have z2 := (FP.Core.zval_eq_zero hn).mp z
      exact hz (UInt64.toNat.inj (show x.toNat = 2 ^ 63 by omega))
    have ed : FP.dneg x = FP.Core.dneg x := FP.dneg_core ((FP.Core.notNaN_iff x).mpr hn)
    have e : absF x = FP.Core.dneg x := by
      unfold absF
      rw [← ed]
      refine if_neg ?_
      rcases qz_cmp hn qz_v0.1 with ⟨_, z⟩ | ⟨z, _⟩ | ⟨z, _⟩
      · rw [z]; decide
      · rw [qz_v0.2] at z; omega
      · rw [qz_v0.2] at z; omega
    have e2 : (FP.Core.dneg x).toNat = x.toNat - 2 ^ 63 := by
      rw [← ed]
      show (x ^^^ 0x8000000000000000).toNat = _
      rw [UInt64.toNat_xor]
      exact (FP.xor_top (a := x.toNat) (k := 63) hxl).2 c2
    rw [e]
    refine ⟨qz_negF hf, big _ (by rw [e2]; omega), by rw [e2]; omega, ?_, fun z => absurd z c, fun _ => ⟨rfl, by rw [e2]; omega, by omega⟩⟩
    have z1 := qz_neg x
    rcases qz_sm x with ⟨_, y⟩ | ⟨_, y⟩ <;> rcases qz_sm (FP.Core.dneg x) with ⟨_, y2⟩ | ⟨_, y2⟩ <;> omega
theorem sz_ok {x y : UInt64} (hx : qzF x) (zx : qzZ x) (hy : qzF y) (zy : qzZ y) : szOK x y := fun h => by
  obtain ⟨x1, x2, x3, _⟩ := abs_ok hx zx
  obtain ⟨y1, y2, y3, _⟩ := abs_ok hy zy
  exact UInt64.toNat.inj ((FP.Core.mono_bits (qz_fn x1) (qz_fn y1) x3 y3).2.1.mp h)
theorem qzB_abs {x : UInt64} {k : Nat} (h : qzB k x) (hz : qzZ x) : qzB k (absF x) ∧ qzZ (absF x) := by
  obtain ⟨a1, a2, a3, a4, _⟩ := abs_ok h.1 hz
  exact ⟨(qzB_m a1).mpr (by rw [a4]; exact (qzB_m h.1).mp h), a2⟩
theorem qzB_sz {x y : UInt64} {k : Nat} (hx : qzB k x) (zx : qzZ x) (hy : qzB k y) (zy : qzZ y) : qzB k (szF x y) ∧ qzZ (szF x y) := by
  unfold szF
  split
  · exact qzB_abs hy zy
  · exact qzB_abs hx zx
