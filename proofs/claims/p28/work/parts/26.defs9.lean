/-! The model's calls. -/
theorem bI_rg {pp : Nat → Int32} {k cn : Nat} (hcn : cn ≤ 20) (hk : k < cn) (e : pp 21 = nI k) : rgS pp (pp 21).toInt.toNat = rgS pp k := by rw [e, nI_tn (by omega)]
theorem leA_t {pp : Nat → Int32} {dd : Nat → UInt64} {r w : Nat} (c : pp (103 + r) = 0) : leA pp dd r w = tchF (dd (50 + w)) (dd (48 + w)) (pp 1) := by unfold leA; rw [if_pos c]
theorem leA_f {pp : Nat → Int32} {dd : Nat → UInt64} {r w : Nat} (c : ¬ pp (103 + r) = 0) : leA pp dd r w = tchF (dd (2 * r + w)) (dd (48 + w)) (pp 1) := by unfold leA; rw [if_neg c]
theorem leOK_w {pp : Nat → Int32} {dd : Nat → UInt64} {r w : Nat} (h : leOK pp dd r) (hw : w < 2) : tchOK (if pp (103 + r) = 0 then dd (50 + w) else dd (2 * r + w)) (dd (48 + w)) (pp 1) := by
  rcases (show w = 0 ∨ w = 1 by omega) with e | e <;> subst e
  · exact h.1
  · exact h.2
theorem leP_e {pp : Nat → Int32} {r : Nat} : upd (upd pp (103 + r) (pp (103 + r) + 1)) 22 0 = leP pp r := rfl
def cdSet (pp : Nat → Int32) (x v : Int32) : Int32 := if x < 0 then 1 else if 4 < x then 1 else if v < loS x then 1 else if hiS x < v then 1 else if x = 3 then (if pp 4 < v then 2 else 0) else if x = 4 then (if v < pp 3 then 2 else 0) else 0
theorem cdSet_1 {pp : Nat → Int32} {x v : Int32} (h : ¬ vaS x v) : cdSet pp x v = 1 := by
  unfold vaS at h; unfold cdSet
  by_cases c1 : x < 0
  · rw [if_pos c1]
  · rw [if_neg c1]
    by_cases c2 : 4 < x
    · rw [if_pos c2]
    · rw [if_neg c2]
      by_cases c3 : v < loS x
      · rw [if_pos c3]
      · rw [if_neg c3]
        by_cases c4 : hiS x < v
        · rw [if_pos c4]
        · exact absurd ⟨⟨c1, c2⟩, c3, c4⟩ h
theorem cdSet_2 {pp : Nat → Int32} {x v : Int32} (h : vaS x v) (c : crS pp x v) : cdSet pp x v = 2 := by
  unfold cdSet
  rw [if_neg h.1.1, if_neg h.1.2, if_neg h.2.1, if_neg h.2.2]
  rcases c with ⟨e, c⟩ | ⟨e, c⟩
  · rw [if_pos e, if_pos c]
  · rw [if_neg (by rw [e]; decide), if_pos e, if_pos c]
theorem cdSet_0 {pp : Nat → Int32} {x v : Int32} (h : vaS x v) (c : ¬ crS pp x v) : cdSet pp x v = 0 := by
  unfold cdSet
  rw [if_neg h.1.1, if_neg h.1.2, if_neg h.2.1, if_neg h.2.2]
  by_cases e : x = 3
  · rw [if_pos e, if_neg (fun z => c (Or.inl ⟨e, z⟩))]
  · rw [if_neg e]
    by_cases e4 : x = 4
    · rw [if_pos e4, if_neg (fun z => c (Or.inr ⟨e4, z⟩))]
    · rw [if_neg e4]
/-- a setting -/
def stP (pp : Nat → Int32) (k : Nat) (v : Int32) : Nat → Int32 := upd pp k v
theorem st_e {pp : Nat → Int32} {k : Nat} {v : Int32} : upd pp (0 + k) v = stP pp k v := by rw [Nat.zero_add]; rfl
def cdSb (x z v : Int32) : Int32 := if x < 0 then 1 else if 1 < x then 1 else if z < 0 then 1 else if 3 < z then 1 else if v < -120 then 1 else if 120 < v then 1 else 0
def vaB (x z v : Int32) : Prop := (¬ x < 0 ∧ ¬ 1 < x) ∧ (¬ z < 0 ∧ ¬ 3 < z) ∧ ¬ v < -120 ∧ ¬ 120 < v
theorem cdSb_0 {x z v : Int32} (h : vaB x z v) : cdSb x z v = 0 := by unfold cdSb; rw [if_neg h.1.1, if_neg h.1.2, if_neg h.2.1.1, if_neg h.2.1.2, if_neg h.2.2.1, if_neg h.2.2.2]
theorem cdSb_1 {x z v : Int32} (h : ¬ vaB x z v) : cdSb x z v = 1 := by
  unfold cdSb
  by_cases c1 : x < 0
  · rw [if_pos c1]
  · rw [if_neg c1]
    by_cases c2 : 1 < x
    · rw [if_pos c2]
    · rw [if_neg c2]
      by_cases c3 : z < 0
      · rw [if_pos c3]
      · rw [if_neg c3]
        by_cases c4 : 3 < z
        · rw [if_pos c4]
        · rw [if_neg c4]
          by_cases c5 : v < -120
          · rw [if_pos c5]
          · rw [if_neg c5]
            by_cases c6 : 120 < v
            · rw [if_pos c6]
            · exact absurd ⟨⟨c1, c2⟩, ⟨c3, c4⟩, c5, c6⟩ h
def vaA (z h : Int32) : Prop := (¬ z < 0 ∧ ¬ 21599 < z) ∧ ¬ h < 0 ∧ ¬ 5400 < h
def cdAdd (cn : Nat) (z h : Int32) : Int32 := if z < 0 then 1 else if 21599 < z then 1 else if h < 0 then 1 else if 5400 < h then 1 else if 20 ≤ cn then 2 else 0
theorem cdAdd_1 {cn : Nat} {z h : Int32} (c : ¬ vaA z h) : cdAdd cn z h = 1 := by
  unfold cdAdd
  by_cases c1 : z < 0
  · rw [if_pos c1]
  · rw [if_neg c1]
    by_cases c2 : 21599 < z
    · rw [if_pos c2]
    · rw [if_neg c2]
      by_cases c3 : h < 0
      · rw [if_pos c3]
      · rw [if_neg c3]
        by_cases c4 : 5400 < h
        · rw [if_pos c4]
        · exact absurd ⟨⟨c1, c2⟩, c3, c4⟩ c
theorem cdAdd_2 {cn : Nat} {z h : Int32} (c : vaA z h) (hn : 20 ≤ cn) : cdAdd cn z h = 2 := by unfold cdAdd; rw [if_neg c.1.1, if_neg c.1.2, if_neg c.2.1, if_neg c.2.2, if_pos hn]
theorem cdAdd_0 {cn : Nat} {z h : Int32} (c : vaA z h) (hn : cn < 20) : cdAdd cn z h = 0 := by unfold cdAdd; rw [if_neg c.1.1, if_neg c.1.2, if_neg c.2.1, if_neg c.2.2, if_neg (by omega)]
/-- an aim: 1 no such star, 2 out of the limits or too late -/
def cdAim (pp : Nat → Int32) (dd : Nat → UInt64) (cn : Nat) (x : Int32) : Int32 := if cdS cn x = 1 then 1 else if alS pp x.toInt.toNat < pp 3 then 2 else if pp 4 < alS pp x.toInt.toNat then 2 else if 1000000 < pp 16 + slN pp dd x.toInt.toNat then 2 else 0
theorem cdAim_1 {pp : Nat → Int32} {dd : Nat → UInt64} {cn : Nat} {x : Int32} (h : ¬ isS cn x) : cdAim pp dd cn x = 1 := by unfold cdAim; rw [if_pos (cdS_1 h)]
theorem cdAim_2 {pp : Nat → Int32} {dd : Nat → UInt64} {cn k : Nat} (h : isS cn (nI k)) (hk : k < 2 ^ 31) (c : ¬ cpP pp dd k) : cdAim pp dd cn (nI k) = 2 := by
  unfold cdAim; rw [cdS_0 h, if_neg (by decide), nI_tn hk]
  by_cases c1 : alS pp k < pp 3
  · rw [if_pos c1]
  · rw [if_neg c1]
    by_cases c2 : pp 4 < alS pp k
    · rw [if_pos c2]
    · rw [if_neg c2]
      by_cases c3 : 1000000 < pp 16 + slN pp dd k
      · rw [if_pos c3]
      · exact absurd ⟨⟨c1, c2⟩, c3⟩ c
theorem cdAim_0 {pp : Nat → Int32} {dd : Nat → UInt64} {cn k : Nat} (h : isS cn (nI k)) (hk : k < 2 ^ 31) (c : cpP pp dd k) : cdAim pp dd cn (nI k) = 0 := by
  unfold cdAim; rw [cdS_0 h, if_neg (by decide), nI_tn hk, if_neg c.1.1, if_neg c.1.2, if_neg c.2]
theorem mx_hi {pp : Nat → Int32} {dd : Nat → UInt64} {k : Nat} (c : wiP pp k) (h : pp 16 + slN pp dd k ≤ 1000000) : cpP pp dd k := ⟨c, Int32.not_lt.mpr h⟩
theorem mx_no {pp : Nat → Int32} {dd : Nat → UInt64} {k : Nat} (h : ¬ pp 16 + slN pp dd k ≤ 1000000) : ¬ cpP pp dd k := fun z => h (Int32.not_lt.mp z.2)
/-- a region forgotten -/
def fgP (pp : Nat → Int32) (r : Nat) : Nat → Int32 := upd pp (103 + r) 0
def fgD (dd : Nat → UInt64) (r : Nat) : Nat → UInt64 := vf_upd (vf_upd dd (2 * r) FP.dconst0) (2 * r + 1) FP.dconst0
def cdApp (L : Nat) (x : Int32) : Int32 := if x < 0 then 1 else if 127 < x then 1 else if 100 ≤ L then 2 else 0
theorem cdApp_1 {L : Nat} {x : Int32} (c : ¬ (¬ x < 0 ∧ ¬ 127 < x)) : cdApp L x = 1 := by
  unfold cdApp
  by_cases c1 : x < 0
  · rw [if_pos c1]
  · rw [if_neg c1]
    by_cases c2 : 127 < x
    · rw [if_pos c2]
    · exact absurd ⟨c1, c2⟩ c
theorem cdApp_2 {L : Nat} {x : Int32} (c : ¬ x < 0 ∧ ¬ 127 < x) (h : 100 ≤ L) : cdApp L x = 2 := by unfold cdApp; rw [if_neg c.1, if_neg c.2, if_pos h]
theorem cdApp_0 {L : Nat} {x : Int32} (c : ¬ x < 0 ∧ ¬ 127 < x) (h : L < 100) : cdApp L x = 0 := by unfold cdApp; rw [if_neg c.1, if_neg c.2, if_neg (by omega)]
