theorem aim_2 {pp : Nat → Int32} {dd : Nat → UInt64} {cn : Nat} {x : Int32} (hcn : cn ≤ 20) (h : isS cn x) (c : ¬ cpP pp dd x.toInt.toNat) : cdAim pp dd cn x = 2 := by
  obtain ⟨k, hk, e⟩ := isS_nat h hcn
  subst e
  rw [nI_tn (by omega)] at c
  exact cdAim_2 h (by omega) c
theorem aim_0 {pp : Nat → Int32} {dd : Nat → UInt64} {cn : Nat} {x : Int32} (hcn : cn ≤ 20) (h : isS cn x) (c : cpP pp dd x.toInt.toNat) : cdAim pp dd cn x = 0 := by
  obtain ⟨k, hk, e⟩ := isS_nat h hcn
  subst e
  rw [nI_tn (by omega)] at c
  exact cdAim_0 h (by omega) c
theorem optI_n20 {o : Option Nat} (h : ∀ q, o = some q → q < 20) (c : optI o < 0) : o = none := optI_lt0 (fun q hq => Nat.lt_trans (h q hq) (by decide)) c
