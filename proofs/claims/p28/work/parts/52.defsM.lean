/-! What the class's methods say. -/
theorem rW {n : Nat} (hn : n < 1000) {x : Int32} : (¬ x < 0 ∧ ¬ nI (n + 1) ≤ x) ↔ (¬ x < 0 ∧ ¬ nI n < x) := by
  have h1 : (nI (n + 1)).toInt = (n + 1 : Nat) := nI_toInt (by omega)
  have h2 : (nI n).toInt = (n : Nat) := nI_toInt (by omega)
  rw [Int32.le_iff_toInt_le, Int32.lt_iff_toInt_lt (x := nI n), h1, h2]
  constructor <;> (intro h; exact ⟨h.1, by have := h.2; omega⟩)
theorem cdBend_n {x z : Int32} (h : ¬ ((¬ x < 0 ∧ ¬ 2 ≤ x) ∧ ¬ z < 0 ∧ ¬ 4 ≤ z)) : cdBend x z = 1 := by
  by_cases c : ¬ x < 0 ∧ ¬ 1 < x
  · exact cdBend_2 c (fun q => h ⟨(rW (n := 1) (by decide)).mpr c, (rW (n := 3) (by decide)).mpr q⟩)
  · exact cdBend_1 c
theorem oN {o : Option Nat} (h : ∀ b, o = some b → b < 1000) (c : optI o = -1) : o = none := by
  cases o with
  | none => rfl
  | some b => exact absurd c (by have := nI_pos (n := b) (by have := h b rfl; omega); intro e; rw [show optI (some b) = nI b from rfl] at e; rw [e] at this; exact this (by decide))
