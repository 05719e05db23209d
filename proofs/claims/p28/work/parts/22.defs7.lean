/-! Codes of refusals, and what is answered. -/
def isS (cn : Nat) (x : Int32) : Prop := ¬ x < 0 ∧ ¬ nI cn ≤ x
theorem isS_nat {cn : Nat} {x : Int32} (h : isS cn x) (hcn : cn ≤ 20) : ∃ k, k < cn ∧ x = nI k := by
  obtain ⟨j, hj, e⟩ := nI_of h.1
  subst e
  exact ⟨j, nI_nle_of h.2 (by omega) hj, rfl⟩
theorem isS_of {cn k : Nat} (hcn : cn ≤ 20) (hk : k < cn) : isS cn (nI k) := ⟨nI_pos (by omega), nI_ge hk (by omega)⟩
theorem isS_m {cn : Nat} {x y : Int32} (hc : y = nI cn) (hcn : cn ≤ 20) : (¬ x < 0 ∧ ¬ y - 1 < x) ↔ isS cn x := by
  subst hc
  unfold isS
  have h0 : (0 : Int32).toInt = 0 := rfl
  have h1 : (1 : Int32).toInt = 1 := rfl
  have e : (nI cn - 1).toInt = (cn : Int) - 1 := by rw [Jvm.Kit.i32_sub (by rw [h1, nI_toInt (by omega)]; omega) (by rw [h1, nI_toInt (by omega)]; omega), h1, nI_toInt (by omega)]
  rw [Int32.lt_iff_toInt_lt, Int32.lt_iff_toInt_lt, Int32.le_iff_toInt_le, e, nI_toInt (by omega)]
  omega
def cdS (cn : Nat) (x : Int32) : Int32 := if x < 0 then 1 else if nI cn ≤ x then 1 else 0
theorem cdS_1 {cn : Nat} {x : Int32} (h : ¬ isS cn x) : cdS cn x = 1 := by
  unfold cdS
  by_cases c : x < 0
  · rw [if_pos c]
  · rw [if_neg c]
    by_cases c2 : nI cn ≤ x
    · rw [if_pos c2]
    · exact absurd ⟨c, c2⟩ h
theorem cdS_0 {cn : Nat} {x : Int32} (h : isS cn x) : cdS cn x = 0 := by unfold cdS; rw [if_neg h.1, if_neg h.2]
/-- a whole number from 0 to hi, else the code -/
def cdW (hi x cd : Int32) : Int32 := if x < 0 then cd else if hi < x then cd else 0
theorem cdW_1 {hi x cd : Int32} (h : ¬ (¬ x < 0 ∧ ¬ hi < x)) : cdW hi x cd = cd := by
  unfold cdW
  by_cases c : x < 0
  · rw [if_pos c]
  · rw [if_neg c]
    by_cases c2 : hi < x
    · rw [if_pos c2]
    · exact absurd ⟨c, c2⟩ h
theorem cdW_0 {hi x cd : Int32} (h : ¬ x < 0 ∧ ¬ hi < x) : cdW hi x cd = 0 := by unfold cdW; rw [if_neg h.1, if_neg h.2]
theorem cdW_nat {n : Nat} {x : Int32} (hn : n < 2 ^ 31) (h : ¬ x < 0 ∧ ¬ nI n < x) : ∃ k, k ≤ n ∧ x = nI k := by
  obtain ⟨j, hj, e⟩ := nI_of h.1
  subst e
  exact ⟨j, nI_nlt_of h.2 hn hj, rfl⟩
def cdStar (cn : Nat) (x w : Int32) : Int32 := if cdS cn x = 1 then 1 else cdW 6 w 2
theorem cdStar_1 {cn : Nat} {x w : Int32} (h : ¬ isS cn x) : cdStar cn x w = 1 := by unfold cdStar; rw [if_pos (cdS_1 h)]
theorem cdStar_2 {cn : Nat} {x w : Int32} (h : isS cn x) (c : ¬ (¬ w < 0 ∧ ¬ 6 < w)) : cdStar cn x w = 2 := by unfold cdStar; rw [cdS_0 h, if_neg (by decide), cdW_1 c]
theorem cdStar_0 {cn : Nat} {x w : Int32} (h : isS cn x) (c : ¬ w < 0 ∧ ¬ 6 < w) : cdStar cn x w = 0 := by unfold cdStar; rw [cdS_0 h, if_neg (by decide), cdW_0 c]
def cdMiss (y w : Int32) : Int32 := if cdW 2 w 1 = 1 then 1 else if y = -1 then 2 else 0
theorem cdMiss_1 {y w : Int32} (c : ¬ (¬ w < 0 ∧ ¬ 2 < w)) : cdMiss y w = 1 := by unfold cdMiss; rw [if_pos (cdW_1 c)]
theorem cdMiss_2 {y w : Int32} (c : ¬ w < 0 ∧ ¬ 2 < w) (h : y = -1) : cdMiss y w = 2 := by unfold cdMiss; rw [cdW_0 c, if_neg (by decide), if_pos h]
theorem cdMiss_0 {y w : Int32} (c : ¬ w < 0 ∧ ¬ 2 < w) (h : ¬ y = -1) : cdMiss y w = 0 := by unfold cdMiss; rw [cdW_0 c, if_neg (by decide), if_neg h]
def cdBend (x z : Int32) : Int32 := if cdW 1 x 1 = 1 then 1 else cdW 3 z 1
theorem cdBend_1 {x z : Int32} (c : ¬ (¬ x < 0 ∧ ¬ 1 < x)) : cdBend x z = 1 := by unfold cdBend; rw [if_pos (cdW_1 c)]
theorem cdBend_2 {x z : Int32} (h : ¬ x < 0 ∧ ¬ 1 < x) (c : ¬ (¬ z < 0 ∧ ¬ 3 < z)) : cdBend x z = 1 := by unfold cdBend; rw [cdW_0 h, if_neg (by decide), cdW_1 c]
theorem cdBend_0 {x z : Int32} (h : ¬ x < 0 ∧ ¬ 1 < x) (c : ¬ z < 0 ∧ ¬ 3 < z) : cdBend x z = 0 := by unfold cdBend; rw [cdW_0 h, if_neg (by decide), cdW_0 c]
def misF (dd : Nat → UInt64) (w : Int32) : UInt64 := mnF (dd 48) (dd 49) w
theorem sfF_le4 {pp : Nat → Int32} {k : Nat} {w : Int32} (h0 : ¬ w = 0) (h1 : ¬ w = 1) (h2 : ¬ w = 2) (h3 : ¬ w = 3) (h4 : ¬ w = 4) : sfF pp k w = (if w = 5 then pp (25 + 4 * k) else pp (26 + 4 * k)) := by
  unfold sfF; rw [if_neg h0, if_neg h1, if_neg h2, if_neg h3, if_neg h4]
theorem wi56 {v : Nat} (hv : v ≤ 6) (h0 : ¬ nI v = 0) (h1 : ¬ nI v = 1) (h2 : ¬ nI v = 2) (h3 : ¬ nI v = 3) (h4 : ¬ nI v = 4) : v = 5 ∨ v = 6 := by
  have e0 : v ≠ 0 := fun e => h0 (by subst e; rfl)
  have e1 : v ≠ 1 := fun e => h1 (by subst e; rfl)
  have e2 : v ≠ 2 := fun e => h2 (by subst e; rfl)
  have e3 : v ≠ 3 := fun e => h3 (by subst e; rfl)
  have e4 : v ≠ 4 := fun e => h4 (by subst e; rfl)
  omega
theorem sumI_pg {pp : Nat → Int32} {lo : Nat} {i n : Nat} (h : i < n) : sumI (pg pp lo n) (i + 1) = sumI (pg pp lo n) i + pp (lo + i) := by
  show sumI (pg pp lo n) i + pg pp lo n i = _; rw [pg_at h]
theorem cntI_pg {pp : Nat → Int32} {lo : Nat} {i n : Nat} (h : i < n) : cntI (pg pp lo n) (i + 1) = if pp (lo + i) ≤ 0 then cntI (pg pp lo n) i else cntI (pg pp lo n) i + 1 := by
  show (if pg pp lo n i ≤ 0 then _ else _) = _; rw [pg_at h]
/-- the stars that would be found -/
def fnF (pp : Nat → Int32) (dd : Nat → UInt64) : Nat → Int32
  | 0 => 0
  | n + 1 => if 0 < Op.cmpValue (FP.dcmp (szF (plMA pp dd n) (plMH pp dd n)) (FP.i2d (pp 2))) .g then fnF pp dd n else fnF pp dd n ||| (1 <<< (nI n &&& 31))
theorem fnF_y {pp : Nat → Int32} {dd : Nat → UInt64} {n : Nat} (h : fdP (szF (plMA pp dd n) (plMH pp dd n)) (pp 2)) : fnF pp dd (n + 1) = fnF pp dd n ||| (1 <<< (nI n &&& 31)) := if_neg h
theorem fnF_n {pp : Nat → Int32} {dd : Nat → UInt64} {n : Nat} (h : ¬ fdP (szF (plMA pp dd n) (plMH pp dd n)) (pp 2)) : fnF pp dd (n + 1) = fnF pp dd n := if_pos (Classical.not_not.mp h)
/-- the nearest star within the limits -/
def nrN (pp : Nat → Int32) (dd : Nat → UInt64) : Nat → Option Nat
  | 0 => none
  | n + 1 => if alS pp n < pp 3 then nrN pp dd n else if pp 4 < alS pp n then nrN pp dd n else match nrN pp dd n with
    | none => some n
    | some b => if slN pp dd n < slN pp dd b then some n else some b
section NR
variable {pp : Nat → Int32} {dd : Nat → UInt64} {n b : Nat}
theorem nrN_out (c : ¬ wiP pp n) : nrN pp dd (n + 1) = nrN pp dd n := by
  unfold wiP at c
  show (if _ then _ else _) = _
  by_cases c1 : alS pp n < pp 3
  · rw [if_pos c1]
  · rw [if_neg c1]
    by_cases c2 : pp 4 < alS pp n
    · rw [if_pos c2]
    · exact absurd ⟨c1, c2⟩ c
theorem nrN_1 (c : wiP pp n) (h : nrN pp dd n = none) : nrN pp dd (n + 1) = some n := by
  show (if _ then _ else _) = _
  rw [if_neg c.1, if_neg c.2, h]
theorem nrN_2 (c : wiP pp n) (h : nrN pp dd n = some b) (hl : slN pp dd n < slN pp dd b) : nrN pp dd (n + 1) = some n := by
  show (if _ then _ else _) = _
  rw [if_neg c.1, if_neg c.2, h]; exact if_pos hl
theorem nrN_3 (c : wiP pp n) (h : nrN pp dd n = some b) (hl : ¬ slN pp dd n < slN pp dd b) : nrN pp dd (n + 1) = some b := by
  show (if _ then _ else _) = _
  rw [if_neg c.1, if_neg c.2, h]; exact if_neg hl
theorem nrN_lt : ∀ {n b : Nat}, nrN pp dd n = some b → b < n
  | 0, b, h => by cases h
  | n + 1, b, h => by
    by_cases c : wiP pp n
    · cases h2 : nrN pp dd n with
      | none => rw [nrN_1 c h2] at h; cases h; omega
      | some z =>
        by_cases hl : slN pp dd n < slN pp dd z
        · rw [nrN_2 c h2 hl] at h; cases h; omega
        · rw [nrN_3 c h2 hl] at h; cases h
          have := nrN_lt h2; omega
    · rw [nrN_out c] at h
      have := nrN_lt h; omega
end NR
/-- a page of the saved ones -/
def mpg (ps : Nat → Int32) (n : Nat) : Nat → Int32 := fun j => ps (127 * n + j)
def mpd (ds : Nat → UInt64) (n : Nat) : Nat → UInt64 := fun j => ds (52 * n + j)
