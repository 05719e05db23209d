/-! An order, as the model reads and does it. -/
theorem sk_e {tx : Nat → Int32} {L z1 e : Nat} {o : Option Nat} (h : o = some e) : (skF tx L 59 z1 o).2 = some e := by rw [h]; rfl
theorem sk_n {tx : Nat → Int32} {L z1 b : Nat} {o : Option Nat} (h : o = none) (e : b = z1) (c : ¬ hrT tx L b = 59) : (skF tx L 59 z1 o).2 = some b := by rw [h, ← e, sk_no (by decide) c]
theorem sk_y {tx : Nat → Int32} {L z1 b : Nat} {o : Option Nat} (h : o = none) (e : b = z1) (c : hrT tx L b = 59) : skF tx L 59 z1 o = (b + 1, none) := by rw [h, ← e, sk_ok (by decide) c]
theorem ro_s {tx : Nat → Int32} {L i : Nat} (h : tx i = 115) : roF tx L i = ((skF tx L 59 (plaF tx L (i + 1)).1 (plaF tx L (i + 1)).2.1).1, (skF tx L 59 (plaF tx L (i + 1)).1 (plaF tx L (i + 1)).2.1).2, (plaF tx L (i + 1)).2.2.1, (plaF tx L (i + 1)).2.2.2, 0) := (roF_s h).trans rfl
/-- what a read order leaves in the model's fields -/
def roM (tx : Nat → Int32) (L i : Nat) (ot nu sd wh : Int32) : Prop :=
  (tx i = 97 → nu = (roF tx L i).2.2.1) ∧ (tx i = 98 → sd = (roF tx L i).2.2.1 ∧ wh = (roF tx L i).2.2.2.1 ∧ nu = (roF tx L i).2.2.2.2) ∧ (tx i = 115 → ot = (roF tx L i).2.2.1 ∧ nu = (roF tx L i).2.2.2.1) ∧ (tx i = 97 ∨ tx i = 98 ∨ tx i = 108 ∨ tx i = 115)
section ROM
variable {tx : Nat → Int32} {L i : Nat} {ot nu sd wh : Int32}
theorem roM_a (h : tx i = 97) (e : nu = (roF tx L i).2.2.1) : roM tx L i ot nu sd wh := ⟨fun _ => e, fun z => absurd (h.symm.trans z) (by decide), fun z => absurd (h.symm.trans z) (by decide), Or.inl h⟩
theorem roM_b (h : tx i = 98) (e : sd = (roF tx L i).2.2.1 ∧ wh = (roF tx L i).2.2.2.1 ∧ nu = (roF tx L i).2.2.2.2) : roM tx L i ot nu sd wh := ⟨fun z => absurd (h.symm.trans z) (by decide), fun _ => e, fun z => absurd (h.symm.trans z) (by decide), Or.inr (Or.inl h)⟩
theorem roM_l (h : tx i = 108) : roM tx L i ot nu sd wh := ⟨fun z => absurd (h.symm.trans z) (by decide), fun z => absurd (h.symm.trans z) (by decide), fun z => absurd (h.symm.trans z) (by decide), Or.inr (Or.inr (Or.inl h))⟩
theorem roM_s (h : tx i = 115) (e : ot = (roF tx L i).2.2.1 ∧ nu = (roF tx L i).2.2.2.1) : roM tx L i ot nu sd wh := ⟨fun z => absurd (h.symm.trans z) (by decide), fun z => absurd (h.symm.trans z) (by decide), fun _ => e, Or.inr (Or.inr (Or.inr h))⟩
end ROM
theorem aim_n {pp : Nat → Int32} {dd : Nat → UInt64} {k cn : Nat} (hc : pp 20 = nI cn) (hk : k < 100) (hcn : cn ≤ 20) (c : ¬ isS cn (nI k)) : pp 20 ≤ nI k := by
  rw [hc]
  refine (nI_leI (by omega) (by omega)).mpr (Nat.le_of_not_lt fun z => c (isS_of hcn z))
theorem doO_n {pp : Nat → Int32} {dd : Nat → UInt64} {kd f2 f3 : Int32} {k cn : Nat} (h : kd = 97) (hc : pp 20 = nI cn) (hk : k < 100) (hcn : cn ≤ 20) (c : ¬ isS cn (nI k)) : doO pp dd kd (nI k) f2 f3 = none :=
  doO_a0 (cn := cn) h hc (by rw [← hc]; exact aim_n (dd := dd) hc hk hcn c)
theorem isS_nle {k cn : Nat} (c : isS cn (nI k)) : ¬ nI cn ≤ nI k := c.2
