/-! What the model reads. -/
theorem dgv {x : Int32} (h1 : 48 ≤ x) (h2 : x ≤ 57) : ∃ k, k < 10 ∧ x = nI (48 + k) := by
  rw [Int32.le_iff_toInt_le] at h1 h2
  have a1 : (48 : Int32).toInt = 48 := rfl
  have a2 : (57 : Int32).toInt = 57 := rfl
  rw [a1] at h1; rw [a2] at h2
  refine ⟨x.toInt.toNat - 48, by omega, ?_⟩
  refine i32_eq ?_
  rw [nI_toInt (by omega)]
  omega
theorem rd_1 {tx : Nat → Int32} {L i : Nat} : (¬ hrT tx L i < 48 ∧ ¬ 49 < hrT tx L i) ↔ (dgP tx L i ∧ tx i - 48 ≤ 1) := by
  by_cases h : i < L
  · rw [hrT_in h]
    constructor
    · rintro ⟨z1, z2⟩
      have y2 : tx i ≤ 57 := Int32.le_trans (Int32.not_lt.mp z2) (by decide)
      refine ⟨⟨h, Int32.not_lt.mp z1, y2⟩, ?_⟩
      obtain ⟨k, hk, e⟩ := dgv (Int32.not_lt.mp z1) y2
      rw [e] at z2 ⊢
      exact (by decide : ∀ k, k < 10 → ¬ 49 < nI (48 + k) → nI (48 + k) - 48 ≤ 1) k hk z2
    · rintro ⟨⟨_, z1, z2⟩, z3⟩
      refine ⟨Int32.not_lt.mpr z1, ?_⟩
      obtain ⟨k, hk, e⟩ := dgv z1 z2
      rw [e] at z3 ⊢
      exact (by decide : ∀ k, k < 10 → nI (48 + k) - 48 ≤ 1 → ¬ 49 < nI (48 + k)) k hk z3
  · rw [hrT_out h]
    exact ⟨fun z => absurd (by decide) z.1, fun z => absurd z.1.1 h⟩
theorem rd_3 {tx : Nat → Int32} {L i : Nat} : (¬ hrT tx L i < 48 ∧ ¬ 51 < hrT tx L i) ↔ (dgP tx L i ∧ tx i - 48 ≤ 3) := by
  by_cases h : i < L
  · rw [hrT_in h]
    constructor
    · rintro ⟨z1, z2⟩
      have y2 : tx i ≤ 57 := Int32.le_trans (Int32.not_lt.mp z2) (by decide)
      refine ⟨⟨h, Int32.not_lt.mp z1, y2⟩, ?_⟩
      obtain ⟨k, hk, e⟩ := dgv (Int32.not_lt.mp z1) y2
      rw [e] at z2 ⊢
      exact (by decide : ∀ k, k < 10 → ¬ 51 < nI (48 + k) → nI (48 + k) - 48 ≤ 3) k hk z2
    · rintro ⟨⟨_, z1, z2⟩, z3⟩
      refine ⟨Int32.not_lt.mpr z1, ?_⟩
      obtain ⟨k, hk, e⟩ := dgv z1 z2
      rw [e] at z3 ⊢
      exact (by decide : ∀ k, k < 10 → nI (48 + k) - 48 ≤ 3 → ¬ 51 < nI (48 + k)) k hk z3
  · rw [hrT_out h]
    exact ⟨fun z => absurd (by decide) z.1, fun z => absurd z.1.1 h⟩
/-- a star's place, read from i on -/
def plaF (tx : Nat → Int32) (L i : Nat) : Nat × Option Nat × Int32 × Int32 :=
  let a := nmF tx L 5 21599 i none
  let b := skF tx L 44 a.1 a.2.1
  let c := nmF tx L 4 5400 b.1 b.2
  (c.1, c.2.1, a.2.2, c.2.2)
theorem sk_no {tx : Nat → Int32} {L i : Nat} {c : Int32} (hc : c ≠ -1) (h : ¬ hrT tx L i = c) : skF tx L c i none = (i, some i) := if_neg fun z => h ((hr_eq hc).mpr z)
theorem sk_ok {tx : Nat → Int32} {L i : Nat} {c : Int32} (hc : c ≠ -1) (h : hrT tx L i = c) : skF tx L c i none = (i + 1, none) := if_pos ((hr_eq hc).mp h)
section PLA
variable {tx : Nat → Int32} {L i b e : Nat}
theorem pl_1 (h : (nmF tx L 5 21599 i none).2.1 = some e) : (plaF tx L i).2.1 = some e := by unfold plaF; dsimp only; rw [h]; rfl
theorem pl_2 (h : (nmF tx L 5 21599 i none).2.1 = none) (e : b = (nmF tx L 5 21599 i none).1) (c : ¬ hrT tx L b = 44) : (plaF tx L i).2.1 = some b := by
  unfold plaF; dsimp only; rw [h, ← e, sk_no (by decide) c]; rfl
theorem pl_3 (h : (nmF tx L 5 21599 i none).2.1 = none) (e : b = (nmF tx L 5 21599 i none).1) (c : hrT tx L b = 44) : plaF tx L i = ((nmF tx L 4 5400 (b + 1) none).1, (nmF tx L 4 5400 (b + 1) none).2.1, (nmF tx L 5 21599 i none).2.2, (nmF tx L 4 5400 (b + 1) none).2.2) := by
  unfold plaF; dsimp only; rw [h, ← e, sk_ok (by decide) c]
end PLA
section BDA
variable {tx : Nat → Int32} {L i : Nat}
theorem bd_1 (h : ¬ (dgP tx L i ∧ tx i - 48 ≤ 1)) : (bdF tx L i none).2.1 = some i := by
  unfold bdF; dsimp only; rw [show rdF tx L 1 i none = (i, some i, 0) from if_neg h]; rfl
theorem bd_2 (h : dgP tx L i ∧ tx i - 48 ≤ 1) (h2 : ¬ (dgP tx L (i + 1) ∧ tx (i + 1) - 48 ≤ 3)) : (bdF tx L i none).2.1 = some (i + 1) := by
  unfold bdF; dsimp only; rw [show rdF tx L 1 i none = (i + 1, none, tx i - 48) from if_pos h]; dsimp only
  rw [show rdF tx L 3 (i + 1) none = (i + 1, some (i + 1), 0) from if_neg h2]; rfl
theorem bd_3 (h : dgP tx L i ∧ tx i - 48 ≤ 1) (h2 : dgP tx L (i + 1) ∧ tx (i + 1) - 48 ≤ 3) (h3 : ¬ hrT tx L (i + 1 + 1) = 45) (h4 : ¬ hrT tx L (i + 1 + 1) = 43) : (bdF tx L i none).2.1 = some (i + 1 + 1) := by
  unfold bdF; dsimp only; rw [show rdF tx L 1 i none = (i + 1, none, tx i - 48) from if_pos h]; dsimp only
  rw [show rdF tx L 3 (i + 1) none = (i + 1 + 1, none, tx (i + 1) - 48) from if_pos h2]; dsimp only
  rw [if_neg (show ¬ (i + 1 + 1 < L ∧ tx (i + 1 + 1) = 45) from fun z => h3 ((hr_eq (by decide)).mpr z)), sk_no (by decide) h4]; rfl
theorem bd_m (h : dgP tx L i ∧ tx i - 48 ≤ 1) (h2 : dgP tx L (i + 1) ∧ tx (i + 1) - 48 ≤ 3) (h3 : hrT tx L (i + 1 + 1) = 45) : bdF tx L i none = ((nmF tx L 3 120 (i + 1 + 1 + 1) none).1, (nmF tx L 3 120 (i + 1 + 1 + 1) none).2.1, tx i - 48, tx (i + 1) - 48, -(nmF tx L 3 120 (i + 1 + 1 + 1) none).2.2) := by
  have hm := (hr_eq (tx := tx) (L := L) (i := i + 1 + 1) (x := 45) (by decide)).mp h3
  unfold bdF; dsimp only; rw [show rdF tx L 1 i none = (i + 1, none, tx i - 48) from if_pos h]; dsimp only
  rw [show rdF tx L 3 (i + 1) none = (i + 1 + 1, none, tx (i + 1) - 48) from if_pos h2]; dsimp only
  rw [if_pos hm, sk_ok (by decide) h3]; dsimp only; rw [if_pos hm]
theorem bd_p (h : dgP tx L i ∧ tx i - 48 ≤ 1) (h2 : dgP tx L (i + 1) ∧ tx (i + 1) - 48 ≤ 3) (h3 : ¬ hrT tx L (i + 1 + 1) = 45) (h4 : hrT tx L (i + 1 + 1) = 43) : bdF tx L i none = ((nmF tx L 3 120 (i + 1 + 1 + 1) none).1, (nmF tx L 3 120 (i + 1 + 1 + 1) none).2.1, tx i - 48, tx (i + 1) - 48, (nmF tx L 3 120 (i + 1 + 1 + 1) none).2.2) := by
  have hm : ¬ (i + 1 + 1 < L ∧ tx (i + 1 + 1) = 45) := fun z => h3 ((hr_eq (by decide)).mpr z)
  unfold bdF; dsimp only; rw [show rdF tx L 1 i none = (i + 1, none, tx i - 48) from if_pos h]; dsimp only
  rw [show rdF tx L 3 (i + 1) none = (i + 1 + 1, none, tx (i + 1) - 48) from if_pos h2]; dsimp only
  rw [if_neg hm, sk_ok (by decide) h4]; dsimp only; rw [if_neg hm]
end BDA
