/-! The model's act of all lessons, and how it reads. -/
/-- what the lessons of all stars ask of every state on their way -/
def laHY (pp : Nat → Int32) (dd : Nat → UInt64) (cn : Nat) : Prop := ∀ n x y v, n < cn → laS pp dd n = some (x, y, v) → (∀ k, k < cn → inS (azS x k) (alS x k)) ∧ (∀ k, k < cn → plOK x y k) ∧ (∀ k, k < cn → szOK (plMA x y k) (plMH x y k)) ∧ 1 ≤ x 0 ∧ (∀ k, k < cn → leOK (goP x y k) (goD x y k) (rgS x k))
theorem az_go {pp : Nat → Int32} {dd : Nat → UInt64} {k j : Nat} (hj : j < 20) : azS (goP pp dd k) j = azS pp j := goP_st (by omega) (by omega) (by omega)
theorem al_go {pp : Nat → Int32} {dd : Nat → UInt64} {k j : Nat} (hj : j < 20) : alS (goP pp dd k) j = alS pp j := goP_st (by omega) (by omega) (by omega)
theorem his_go {pp : Nat → Int32} {dd : Nat → UInt64} {i cn : Nat} (hcn : cn ≤ 20) (h : ∀ k, k < cn → inS (azS pp k) (alS pp k)) : ∀ k, k < cn → inS (azS (goP pp dd i) k) (alS (goP pp dd i) k) := fun k hk => by
  rw [az_go (by omega), al_go (by omega)]; exact h k hk
theorem rg_go {pp : Nat → Int32} {dd : Nat → UInt64} {i : Nat} (hi : i < 20) : rgS (goP pp dd i) (goP pp dd i 21).toInt.toNat = rgS pp i := by
  rw [goP_21, nI_tn (by omega)]
  unfold rgS
  rw [az_go hi, al_go hi]
theorem la_20 {pp : Nat → Int32} {dd : Nat → UInt64} {i r : Nat} (hi : i < 20) : leP (goP pp dd i) r 20 = pp 20 := by
  rw [leP_lo (by decide) (by decide), goP_20 hi]
/-- the letter a reader stands before -/
def hrT (tx : Nat → Int32) (L i : Nat) : Int32 := if i < L then tx i else -1
theorem hrT_in {tx : Nat → Int32} {L i : Nat} (h : i < L) : hrT tx L i = tx i := if_pos h
theorem hrT_out {tx : Nat → Int32} {L i : Nat} (h : ¬ i < L) : hrT tx L i = -1 := if_neg h
theorem dg_hr {tx : Nat → Int32} {L i : Nat} : (¬ hrT tx L i < 48 ∧ ¬ 57 < hrT tx L i) ↔ dgP tx L i := by
  by_cases h : i < L
  · rw [hrT_in h]
    exact ⟨fun z => ⟨h, Int32.not_lt.mp z.1, Int32.not_lt.mp z.2⟩, fun z => ⟨Int32.not_lt.mpr z.2.1, Int32.not_lt.mpr z.2.2⟩⟩
  · rw [hrT_out h]
    exact ⟨fun z => absurd (by decide) z.1, fun z => absurd z.1 h⟩
theorem hr_eq {tx : Nat → Int32} {L i : Nat} {x : Int32} (hx : x ≠ -1) : hrT tx L i = x ↔ i < L ∧ tx i = x := by
  by_cases h : i < L
  · rw [hrT_in h]; exact ⟨fun z => ⟨h, z⟩, fun z => z.2⟩
  · rw [hrT_out h]; exact ⟨fun z => absurd z.symm hx, fun z => absurd z.1 h⟩
