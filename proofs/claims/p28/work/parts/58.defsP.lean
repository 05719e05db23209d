/-! Places of a tour; the bits of a double by arithmetic. -/
theorem cnt_le (N : Nat) : ∀ n, cntN N n ≤ n
  | 0 => Nat.le_refl _
  | n + 1 => by have := cnt_le N n; have h : N / 2 ^ n % 2 < 2 := Nat.mod_lt _ (by decide); show cntN N n + N / 2 ^ n % 2 ≤ n + 1; omega
theorem tp_1 {y : Int32} {m : Nat} (c : y < -1) : ¬ y = -1 ∧ ¬ (¬ y < 0 ∧ ¬ nI (m - 1) < y) := by
  rw [Int32.lt_iff_toInt_lt, show (-1 : Int32).toInt = -1 from rfl] at c
  refine ⟨fun e => ?_, fun z => z.1 ?_⟩
  · rw [e, show (-1 : Int32).toInt = -1 from rfl] at c; omega
  · rw [Int32.lt_iff_toInt_lt, show (0 : Int32).toInt = 0 from rfl]; omega
theorem tp_2 {y : Int32} {m : Nat} (c : ¬ y < nI m) (h1 : 1 ≤ m) (h5 : m ≤ 5) : ¬ y = -1 ∧ ¬ (¬ y < 0 ∧ ¬ nI (m - 1) < y) := by
  rw [Int32.lt_iff_toInt_lt, nI_toInt (by omega)] at c
  refine ⟨fun e => ?_, fun z => z.2 ?_⟩
  · rw [e, show (-1 : Int32).toInt = -1 from rfl] at c; omega
  · rw [Int32.lt_iff_toInt_lt, nI_toInt (by omega)]; omega
theorem tp_k {y : Int32} {m : Nat} (c : y < nI m) (h1 : ¬ y < -1) (h2 : ¬ y = -1) (h5 : m ≤ 5) : ∃ k, k < m ∧ y = nI k := by
  rw [Int32.lt_iff_toInt_lt, nI_toInt (by omega)] at c
  rw [Int32.lt_iff_toInt_lt, show (-1 : Int32).toInt = -1 from rfl] at h1
  have h3 : y.toInt ≠ -1 := fun e => h2 (i32_eq e)
  exact ⟨y.toInt.toNat, by omega, nI_of_toInt (by omega)⟩
def bo1 : Nat → UInt64 → Nat → UInt64 × Nat
  | 0, s, k => (s, k)
  | n + 1, s, k => if Op.cmpValue (FP.dcmp s 4611686018427387904) .l < 0 then (s, k) else if 1023 ≤ k then (s, k) else bo1 n (FP.ddiv s 4611686018427387904) (k + 1)
def bo2 : Nat → UInt64 → Nat → UInt64 × Nat
  | 0, s, a => (s, a)
  | n + 1, s, a => if 0 ≤ Op.cmpValue (FP.dcmp s FP.dconst1) .g then (s, a) else if a = 0 then (s, a) else bo2 n (FP.dmul s 4611686018427387904) (a - 1)
def boR (x : UInt64) : UInt64 × Nat := bo2 ((bo1 1024 (absF x) 0).2 + 1023) (bo1 1024 (absF x) 0).1 ((bo1 1024 (absF x) 0).2 + 1022)
def boF (x : UInt64) : Int64 := if Op.cmpValue (FP.dcmp x FP.dconst0) .l = 0 then 0 else if 0 ≤ Op.cmpValue (FP.dcmp x FP.dconst0) .g then (((nI (boR x).2 - 1022 + 1023 : Int32).toInt64 <<< ((52 : Int32).toInt64 &&& 63)) + ((FP.d2l (FP.dmul (boR x).1 (FP.l2d 4503599627370496))) - 4503599627370496)) else ((((nI (boR x).2 - 1022 + 1023 : Int32).toInt64 <<< ((52 : Int32).toInt64 &&& 63)) + ((FP.d2l (FP.dmul (boR x).1 (FP.l2d 4503599627370496))) - 4503599627370496)) ||| (-9223372036854775808))
def boH (x : UInt64) : Prop := ∃ F : UInt64 → Prop, F (absF x) ∧ (∀ s, F s → ¬ Op.cmpValue (FP.dcmp s 4611686018427387904) .l < 0 → vf_n64 (FP.ddiv s 4611686018427387904) ∧ F (FP.ddiv s 4611686018427387904)) ∧ (∀ s, F s → ¬ 0 ≤ Op.cmpValue (FP.dcmp s FP.dconst1) .g → vf_n64 (FP.dmul s 4611686018427387904) ∧ F (FP.dmul s 4611686018427387904)) ∧ ∀ s, F s → vf_n64 (FP.dmul s (FP.l2d 4503599627370496))
def gB (x : UInt64) : Prop := boH x ∧ boF x = dbL x
section BO
variable {s : UInt64} {k a : Nat}
theorem bo1_s (h : k < 1023) (c : ¬ Op.cmpValue (FP.dcmp s 4611686018427387904) .l < 0) : bo1 (1024 - (k + 1)) (FP.ddiv s 4611686018427387904) (k + 1) = bo1 (1024 - k) s k := by
  rw [show 1024 - k = (1024 - (k + 1)) + 1 by omega]
  unfold bo1
  rw [if_neg c, if_neg (by omega)]
  conv => rhs; unfold bo1
theorem bo1_1 (h : k ≤ 1023) (c : Op.cmpValue (FP.dcmp s 4611686018427387904) .l < 0) : bo1 (1024 - k) s k = (s, k) := by
  rw [show 1024 - k = (1023 - k) + 1 by omega]; exact if_pos c
theorem bo1_2 (h : k ≤ 1023) (c : ¬ Op.cmpValue (FP.dcmp s 4611686018427387904) .l < 0) (h2 : 1023 ≤ k) : bo1 (1024 - k) s k = (s, k) := by
  rw [show 1024 - k = (1023 - k) + 1 by omega]; exact (if_neg c).trans (if_pos h2)
theorem bo2_1 (c : 0 ≤ Op.cmpValue (FP.dcmp s FP.dconst1) .g) : bo2 (a + 1) s a = (s, a) := if_pos c
theorem bo2_2 (c : ¬ 0 ≤ Op.cmpValue (FP.dcmp s FP.dconst1) .g) (h : a = 0) : bo2 (a + 1) s a = (s, a) := (if_neg c).trans (if_pos h)
theorem bo2_s (c : ¬ 0 ≤ Op.cmpValue (FP.dcmp s FP.dconst1) .g) (h : a ≠ 0) : bo2 (a - 1 + 1) (FP.dmul s 4611686018427387904) (a - 1) = bo2 (a + 1) s a := by
  rw [show a - 1 + 1 = a by omega]; exact ((if_neg c).trans (if_neg h)).symm
theorem e1022 (k : Nat) : nI k = nI (k + 1022) - 1022 := by
  rw [← nI_add k 1022]; exact (Int32.add_sub_cancel (nI k) 1022).symm
theorem le1022 (h : a ≤ 2045) : nI a - 1022 ≤ -1022 ↔ a = 0 := by
  have k : (1022 : Int32).toInt = 1022 := rfl
  rw [Int32.le_iff_toInt_le, Jvm.Kit.i32_sub (by rw [k, nI_toInt (by omega)]; omega) (by rw [k, nI_toInt (by omega)]; omega), k, nI_toInt (by omega), show (-1022 : Int32).toInt = -1022 from rfl]
  omega
theorem inc1022 (h : a ≠ 0) : nI a - 1022 + (-1) = nI (a - 1) - 1022 := by
  obtain ⟨j, rfl⟩ : ∃ j, a = j + 1 := ⟨a - 1, by omega⟩
  rw [show j + 1 - 1 = j by omega, ← nI_add j 1]
  show nI j + 1 - 1022 + -1 = nI j - 1022
  rw [Int32.sub_eq_add_neg, Int32.sub_eq_add_neg, Int32.add_assoc, Int32.add_assoc]
  congr 1
end BO
