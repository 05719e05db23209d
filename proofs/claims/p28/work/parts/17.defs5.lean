/-! What an aim, a lesson, an order make of the state. -/
def ttS (pp : Nat → Int32) (dd : Nat → UInt64) (k : Nat) : Int32 := ntF (pp 13) (plZ pp dd k)
def slN (pp : Nat → Int32) (dd : Nat → UInt64) (k : Nat) : Int32 := slS pp dd k (pp 13) (pp 14) (pp 15)
def fdI (pp : Nat → Int32) (dd : Nat → UInt64) (k : Nat) : Int32 := if 0 < Op.cmpValue (FP.dcmp (szF (plMA pp dd k) (plMH pp dd k)) (FP.i2d (pp 2))) .g then 0 else 1
/-- the whole numbers behind an aim at star k -/
def goP (pp : Nat → Int32) (dd : Nat → UInt64) (k : Nat) : Nat → Int32 :=
  upd (upd (upd (upd (upd (upd (upd (upd (upd (upd (upd pp 19 (pp 19 + (if nI (sdS pp k) = pp 15 then 0 else 1))) 13 (ttS pp dd k)) 14 (plT pp dd k)) 15 (nI (sdS pp k))) 16 (pp 16 + slN pp dd k)) 17 (pp 17 + 1)) (25 + 4 * k) (pp (25 + 4 * k) + 1)) 18 (pp 18 + fdI pp dd k)) (26 + 4 * k) (pp (26 + 4 * k) + fdI pp dd k)) 21 (nI k)) 22 1
def goD (pp : Nat → Int32) (dd : Nat → UInt64) (k : Nat) : Nat → UInt64 :=
  vf_upd (vf_upd (vf_upd (vf_upd dd 50 (plA pp dd k)) 51 (plH pp dd k)) 48 (plMA pp dd k)) 49 (plMH pp dd k)
section GOP
variable {pp : Nat → Int32} {dd : Nat → UInt64} {k : Nat}
theorem goP_s : pg (goP pp dd k) 0 5 = pg pp 0 5 := by unfold goP; simp (disch := omega) only [pg_out]
theorem goP_b : pg (goP pp dd k) 5 8 = pg pp 5 8 := by unfold goP; simp (disch := omega) only [pg_out]
theorem goP_l (hk : k < 20) : pg (goP pp dd k) 103 24 = pg pp 103 24 := by unfold goP; simp (disch := omega) only [pg_out]
theorem goP_az : p4 (goP pp dd k) 23 20 = p4 pp 23 20 := by unfold goP; simp (disch := omega) only [p4_out]
theorem goP_al : p4 (goP pp dd k) 24 20 = p4 pp 24 20 := by unfold goP; simp (disch := omega) only [p4_out]
theorem goP_ai (hk : k < 20) : p4 (goP pp dd k) 25 20 = upd (p4 pp 25 20) k (p4 pp 25 20 k + 1) := by unfold goP; simp (disch := omega) only [p4_out, p4_in, p4_at]
theorem upd_self {f : Nat → Int32} {k : Nat} {v : Int32} (h : v = f k) : upd f k v = f := by
  funext i; unfold upd; split
  · rename_i e; rw [e, h]
  · rfl
theorem goP_fi (hk : k < 20) : p4 (goP pp dd k) 26 20 = upd (p4 pp 26 20) k (p4 pp 26 20 k + fdI pp dd k) := by unfold goP; simp (disch := omega) only [p4_out, p4_in, p4_at]
theorem goP_fiT (hk : k < 20) (h : fdP (szF (plMA pp dd k) (plMH pp dd k)) (pp 2)) : p4 (goP pp dd k) 26 20 = upd (p4 pp 26 20) k (p4 pp 26 20 k + 1) := by
  rw [goP_fi hk, show fdI pp dd k = 1 from if_neg h]
theorem goP_fiF (hk : k < 20) (h : ¬ fdP (szF (plMA pp dd k) (plMH pp dd k)) (pp 2)) : p4 (goP pp dd k) 26 20 = p4 pp 26 20 := by
  rw [goP_fi hk, show fdI pp dd k = 0 from if_pos (Classical.not_not.mp h), Int32.add_zero]
  exact upd_self rfl
theorem goP_13 : goP pp dd k 13 = ttS pp dd k := by unfold goP; simp (disch := omega) only [pk_un, pk_us]
theorem goP_14 : goP pp dd k 14 = plT pp dd k := by unfold goP; simp (disch := omega) only [pk_un, pk_us]
theorem goP_15 : goP pp dd k 15 = nI (sdS pp k) := by unfold goP; simp (disch := omega) only [pk_un, pk_us]
theorem goP_16 : goP pp dd k 16 = pp 16 + slN pp dd k := by unfold goP; simp (disch := omega) only [pk_un, pk_us]
theorem goP_17 : goP pp dd k 17 = pp 17 + 1 := by unfold goP; simp (disch := omega) only [pk_un, pk_us]
theorem goP_18 : goP pp dd k 18 = pp 18 + fdI pp dd k := by unfold goP; simp (disch := omega) only [pk_un, pk_us]
theorem goP_19 : goP pp dd k 19 = pp 19 + (if nI (sdS pp k) = pp 15 then 0 else 1) := by unfold goP; simp (disch := omega) only [pk_un, pk_us]
theorem goP_19e (h : nI (sdS pp k) = pp 15) : goP pp dd k 19 = pp 19 := by rw [goP_19, if_pos h, Int32.add_zero]
theorem goP_19n (h : ¬ nI (sdS pp k) = pp 15) : goP pp dd k 19 = pp 19 + 1 := by rw [goP_19, if_neg h]
theorem goP_20 (hk : k < 20) : goP pp dd k 20 = pp 20 := by unfold goP; simp (disch := omega) only [pk_un, pk_us]
theorem goP_21 : goP pp dd k 21 = nI k := by unfold goP; simp (disch := omega) only [pk_un, pk_us]
theorem goP_22 : goP pp dd k 22 = 1 := by unfold goP; simp (disch := omega) only [pk_un, pk_us]
theorem goD_a : d2 (goD pp dd k) 0 24 = d2 dd 0 24 := by unfold goD; simp (disch := omega) only [d2_out]
theorem goD_h : d2 (goD pp dd k) 1 24 = d2 dd 1 24 := by unfold goD; simp (disch := omega) only [d2_out]
theorem goD_50 : goD pp dd k 50 = plA pp dd k := by unfold goD; simp (disch := omega) only [vf_un, vf_us]
theorem goD_51 : goD pp dd k 51 = plH pp dd k := by unfold goD; simp (disch := omega) only [vf_un, vf_us]
theorem goD_48 : goD pp dd k 48 = plMA pp dd k := by unfold goD; simp (disch := omega) only [vf_un, vf_us]
theorem goD_49 : goD pp dd k 49 = plMH pp dd k := by unfold goD; simp (disch := omega) only [vf_un, vf_us]
end GOP
def cpP (pp : Nat → Int32) (dd : Nat → UInt64) (k : Nat) : Prop := wiP pp k ∧ ¬ 1000000 < pp 16 + slN pp dd k
/-- behind a lesson: r is the region of the latest aim -/
def leA (pp : Nat → Int32) (dd : Nat → UInt64) (r w : Nat) : UInt64 := tchF (if pp (103 + r) = 0 then dd (50 + w) else dd (2 * r + w)) (dd (48 + w)) (pp 1)
def leP (pp : Nat → Int32) (r : Nat) : Nat → Int32 := upd (upd pp (103 + r) (pp (103 + r) + 1)) 22 0
def leD (pp : Nat → Int32) (dd : Nat → UInt64) (r : Nat) : Nat → UInt64 := vf_upd (vf_upd dd (2 * r + 0) (leA pp dd r 0)) (2 * r + 1) (leA pp dd r 1)
def leOK (pp : Nat → Int32) (dd : Nat → UInt64) (r : Nat) : Prop := tchOK (if pp (103 + r) = 0 then dd 50 else dd (2 * r + 0)) (dd 48) (pp 1) ∧ tchOK (if pp (103 + r) = 0 then dd 51 else dd (2 * r + 1)) (dd 49) (pp 1)
section LEP
variable {pp : Nat → Int32} {dd : Nat → UInt64} {r : Nat}
theorem leP_s : pg (leP pp r) 0 5 = pg pp 0 5 := by unfold leP; simp (disch := omega) only [pg_out]
theorem leP_b : pg (leP pp r) 5 8 = pg pp 5 8 := by unfold leP; simp (disch := omega) only [pg_out]
theorem leP_l (hr : r < 24) : pg (leP pp r) 103 24 = upd (pg pp 103 24) r (pg pp 103 24 r + 1) := by unfold leP; simp (disch := omega) only [pg_out, pg_in, pg_at]
theorem leP_az : p4 (leP pp r) 23 20 = p4 pp 23 20 := by unfold leP; simp (disch := omega) only [p4_out]
theorem leP_al : p4 (leP pp r) 24 20 = p4 pp 24 20 := by unfold leP; simp (disch := omega) only [p4_out]
theorem leP_ai : p4 (leP pp r) 25 20 = p4 pp 25 20 := by unfold leP; simp (disch := omega) only [p4_out]
theorem leP_fi : p4 (leP pp r) 26 20 = p4 pp 26 20 := by unfold leP; simp (disch := omega) only [p4_out]
theorem leP_o {j : Nat} (h : j < 22) : leP pp r j = pp j := by unfold leP; simp (disch := omega) only [pk_un]
theorem leP_22 : leP pp r 22 = 0 := by unfold leP; simp only [pk_us]
theorem leD_a (hr : r < 24) : d2 (leD pp dd r) 0 24 = vf_upd (d2 dd 0 24) r (leA pp dd r 0) := by unfold leD; simp (disch := omega) only [d2_out, d2_in]
theorem leD_h (hr : r < 24) : d2 (leD pp dd r) 1 24 = vf_upd (d2 dd 1 24) r (leA pp dd r 1) := by unfold leD; simp (disch := omega) only [d2_out, d2_in]
theorem leD_o {j : Nat} (hr : r < 24) (h : 48 ≤ j) : leD pp dd r j = dd j := by unfold leD; simp (disch := omega) only [vf_un]
end LEP
/-- lessons of all stars below n: none where the time gets too late -/
def laS (pp : Nat → Int32) (dd : Nat → UInt64) : Nat → Option ((Nat → Int32) × (Nat → UInt64) × Int32)
  | 0 => some (pp, dd, 0)
  | n + 1 => match laS pp dd n with
    | none => none
    | some (x, y, v) => if alS x n < x 3 then some (x, y, v) else if x 4 < alS x n then some (x, y, v) else if 1000000 < x 16 + slN x y n then none else some (leP (goP x y n) (rgS x n), leD (goP x y n) (goD x y n) (rgS x n), v + fdI x y n)
def laOK (pp : Nat → Int32) (dd : Nat → UInt64) (cn : Nat) : Prop := ∀ n x y v, n < cn → laS pp dd n = some (x, y, v) → inS (azS x n) (alS x n) ∧ plOK x y n ∧ leOK (goP x y n) (goD x y n) (rgS x n)
section LAS
variable {pp x : Nat → Int32} {dd y : Nat → UInt64} {n : Nat} {v : Int32}
theorem laS_no (h : laS pp dd n = some (x, y, v)) (c : ¬ wiP x n) : laS pp dd (n + 1) = some (x, y, v) := by
  unfold laS; rw [h]; dsimp only
  unfold wiP at c
  by_cases c1 : alS x n < x 3
  · rw [if_pos c1]
  · rw [if_neg c1]
    by_cases c2 : x 4 < alS x n
    · rw [if_pos c2]
    · exact absurd ⟨c1, c2⟩ c
theorem laS_late (h : laS pp dd n = some (x, y, v)) (w : wiP x n) (c : ¬ cpP x y n) : laS pp dd (n + 1) = none := by
  unfold laS; rw [h]; dsimp only
  rw [if_neg w.1, if_neg w.2, if_pos (Classical.byContradiction fun z => c ⟨w, z⟩)]
theorem laS_yes (h : laS pp dd n = some (x, y, v)) (c : cpP x y n) : laS pp dd (n + 1) = some (leP (goP x y n) (rgS x n), leD (goP x y n) (goD x y n) (rgS x n), v + fdI x y n) := by
  unfold laS; rw [h]; dsimp only
  rw [if_neg c.1.1, if_neg c.1.2, if_neg c.2]
theorem laS_none {m : Nat} (h : laS pp dd n = none) (hm : n ≤ m) : laS pp dd m = none := by
  induction m with
  | zero => obtain rfl : n = 0 := by omega
            exact h
  | succ m ih =>
    rcases Nat.lt_or_ge m n with q | q
    · obtain rfl : n = m + 1 := by omega
      exact h
    · unfold laS; rw [ih q]
theorem fd_go (k : Nat) : szF (goD pp dd k 48) (goD pp dd k 49) = szF (plMA pp dd k) (plMH pp dd k) := by rw [goD_48, goD_49]
theorem goP_o {k j : Nat} (h : j < 13) : goP pp dd k j = pp j := by unfold goP; simp (disch := omega) only [pk_un]
theorem goP_st {k j : Nat} (h : j % 4 = 3 ∨ j % 4 = 0) (h23 : 23 ≤ j) (h103 : j < 103) : goP pp dd k j = pp j := by unfold goP; simp (disch := omega) only [pk_un]
theorem goP_hi {k j : Nat} (hk : k < 20) (h : 103 ≤ j) : goP pp dd k j = pp j := by unfold goP; simp (disch := omega) only [pk_un]
theorem leP_lo {r j : Nat} (h : j < 103) (h2 : j ≠ 22) : leP pp r j = pp j := by unfold leP; simp (disch := omega) only [pk_un]
theorem fdI_t {k : Nat} (h : fdP (szF (goD pp dd k 48) (goD pp dd k 49)) (goP pp dd k 2)) : fdI pp dd k = 1 := by
  rw [fd_go, goP_o (by decide)] at h; exact if_neg h
theorem fdI_f {k : Nat} (h : ¬ fdP (szF (goD pp dd k 48) (goD pp dd k 49)) (goP pp dd k 2)) : fdI pp dd k = 0 := by
  rw [fd_go, goP_o (by decide)] at h; exact if_pos (Classical.not_not.mp h)
end LAS
/-- a star comes -/
def adP (pp : Nat → Int32) (n : Nat) (z h : Int32) : Nat → Int32 := upd (upd (upd pp (23 + 4 * n) z) (24 + 4 * n) h) 20 (nI (n + 1))
section ADP
variable {pp : Nat → Int32} {n : Nat} {z h : Int32}
theorem adP_s : pg (adP pp n z h) 0 5 = pg pp 0 5 := by unfold adP; simp (disch := omega) only [pg_out]
theorem adP_b : pg (adP pp n z h) 5 8 = pg pp 5 8 := by unfold adP; simp (disch := omega) only [pg_out]
theorem adP_l (hn : n < 20) : pg (adP pp n z h) 103 24 = pg pp 103 24 := by unfold adP; simp (disch := omega) only [pg_out]
theorem adP_az (hn : n < 20) : p4 (adP pp n z h) 23 20 = upd (p4 pp 23 20) n z := by unfold adP; simp (disch := omega) only [p4_out, p4_in]
theorem adP_al (hn : n < 20) : p4 (adP pp n z h) 24 20 = upd (p4 pp 24 20) n h := by unfold adP; simp (disch := omega) only [p4_out, p4_in]
theorem adP_ai : p4 (adP pp n z h) 25 20 = p4 pp 25 20 := by unfold adP; simp (disch := omega) only [p4_out]
theorem adP_fi : p4 (adP pp n z h) 26 20 = p4 pp 26 20 := by unfold adP; simp (disch := omega) only [p4_out]
theorem adP_o {j : Nat} (hj : j < 23) (h2 : j ≠ 20) : adP pp n z h j = pp j := by unfold adP; simp (disch := omega) only [pk_un]
theorem adP_20 : adP pp n z h 20 = nI (n + 1) := by unfold adP; exact pk_us
end ADP
/-- a number of the bend -/
def bdP (pp : Nat → Int32) (i : Nat) (v : Int32) : Nat → Int32 := upd pp (5 + i) v
section BDP
variable {pp : Nat → Int32} {i : Nat} {v : Int32}
theorem bdP_s : pg (bdP pp i v) 0 5 = pg pp 0 5 := by unfold bdP; simp (disch := omega) only [pg_out]
theorem bdP_b (hi : i < 8) : pg (bdP pp i v) 5 8 = upd (pg pp 5 8) i v := by unfold bdP; simp (disch := omega) only [pg_in]
theorem bdP_l (hi : i < 8) : pg (bdP pp i v) 103 24 = pg pp 103 24 := by unfold bdP; simp (disch := omega) only [pg_out]
theorem bdP_p {lo : Nat} (hi : i < 8) (hl : 23 ≤ lo) : p4 (bdP pp i v) lo 20 = p4 pp lo 20 := by unfold bdP; simp (disch := omega) only [p4_out]
theorem bdP_o {j : Nat} (hi : i < 8) (h : 13 ≤ j) : bdP pp i v j = pp j := by unfold bdP; simp (disch := omega) only [pk_un]
end BDP
/-- one order carried out; none where it would throw -/
def doO (pp : Nat → Int32) (dd : Nat → UInt64) (kd f1 f2 f3 : Int32) : Option ((Nat → Int32) × (Nat → UInt64)) :=
  if kd = 97 then (if pp 20 ≤ f1 then none else if alS pp f1.toInt.toNat < pp 3 then none else if pp 4 < alS pp f1.toInt.toNat then none else if 1000000 < pp 16 + slN pp dd f1.toInt.toNat then none else some (goP pp dd f1.toInt.toNat, goD pp dd f1.toInt.toNat))
  else if kd = 108 then (if pp 22 = 0 then none else some (leP pp (rgS pp (pp 21).toInt.toNat), leD pp dd (rgS pp (pp 21).toInt.toNat)))
  else if kd = 115 then (if 20 ≤ pp 20 then none else some (adP pp (pp 20).toInt.toNat f1 f2, dd))
  else some (bdP pp (4 * f1.toInt.toNat + f2.toInt.toNat) f3, dd)
theorem nI_tn {k : Nat} (h : k < 2 ^ 31) : (nI k).toInt.toNat = k := by rw [nI_toInt h]; omega
section DOO
variable {pp : Nat → Int32} {dd : Nat → UInt64} {kd f1 f2 f3 : Int32}
theorem doO_a0 {k cn : Nat} (h : kd = 97) (hc : pp 20 = nI cn) (c : nI cn ≤ nI k) : doO pp dd kd (nI k) f2 f3 = none := by
  unfold doO; rw [if_pos h, hc, if_pos c]
theorem doO_a1 {k cn : Nat} (h : kd = 97) (hk : k < 100) (c : ¬ cpP pp dd k) : doO pp dd kd (nI k) f2 f3 = none := by
  unfold doO; rw [if_pos h, nI_tn (by omega)]
  split
  · rfl
  · split
    · rfl
    · rename_i c1; split
      · rfl
      · rename_i c2; split
        · rfl
        · rename_i c3; exact absurd ⟨⟨c1, c2⟩, c3⟩ c
theorem doO_a2 {k cn : Nat} (h : kd = 97) (hk : k < 100) (hc : pp 20 = nI cn) (c0 : ¬ nI cn ≤ nI k) (c : cpP pp dd k) : doO pp dd kd (nI k) f2 f3 = some (goP pp dd k, goD pp dd k) := by
  unfold doO; rw [if_pos h, nI_tn (by omega), hc, if_neg c0, if_neg c.1.1, if_neg c.1.2, if_neg c.2]
theorem doO_l0 (h : kd = 108) (c : pp 22 = 0) : doO pp dd kd f1 f2 f3 = none := by
  unfold doO; rw [if_neg (by rw [h]; decide), if_pos h, if_pos c]
theorem doO_l1 (h : kd = 108) (c : ¬ pp 22 = 0) : doO pp dd kd f1 f2 f3 = some (leP pp (rgS pp (pp 21).toInt.toNat), leD pp dd (rgS pp (pp 21).toInt.toNat)) := by
  unfold doO; rw [if_neg (by rw [h]; decide), if_pos h, if_neg c]
theorem doO_s0 {cn : Nat} (h : kd = 115) (hc : pp 20 = nI cn) (c : ¬ nI cn < 20) : doO pp dd kd f1 f2 f3 = none := by
  unfold doO; rw [if_neg (by rw [h]; decide), if_neg (by rw [h]; decide), if_pos h, hc, if_pos (Int32.not_lt.mp c)]
theorem doO_s1 {cn : Nat} (h : kd = 115) (hc : pp 20 = nI cn) (hcn : cn ≤ 20) (c : nI cn < 20) : doO pp dd kd f1 f2 f3 = some (adP pp cn f1 f2, dd) := by
  unfold doO; rw [if_neg (by rw [h]; decide), if_neg (by rw [h]; decide), if_pos h, hc, if_neg (Int32.not_le.mpr c), nI_tn (by omega)]
theorem doO_b {x y : Nat} (h1 : ¬ kd = 97) (h2 : ¬ kd = 108) (h3 : ¬ kd = 115) (hx : x < 2) (hy : y < 4) : doO pp dd kd (nI x) (nI y) f3 = some (bdP pp (4 * x + y) f3, dd) := by
  unfold doO; rw [if_neg h1, if_neg h2, if_neg h3, nI_tn (by omega), nI_tn (by omega)]
end DOO
def sfF (pp : Nat → Int32) (k : Nat) (w : Int32) : Int32 :=
  if w = 0 then azS pp k else if w = 1 then alS pp k else if w = 2 then sdF (azS pp k) else if w = 3 then rgF (azS pp k) (alS pp k) else if w = 4 then (if alS pp k < pp 3 then 0 else if pp 4 < alS pp k then 0 else 1) else if w = 5 then pp (25 + 4 * k) else pp (26 + 4 * k)
def nbF (pp : Nat → Int32) (cn : Nat) (w : Int32) : Int32 :=
  if w = 0 then nI cn else if w = 1 then pp 13 else if w = 2 then pp 14 else if w = 3 then pp 15 else if w = 4 then pp 16 else if w = 5 then sumI (p4 pp 25 20) cn else if w = 6 then sumI (p4 pp 26 20) cn else if w = 7 then pp 19 else if w = 8 then sumI (pg pp 103 24) 24 else if w = 9 then cntI (pg pp 103 24) 24 else if w = 10 then pp 21 else if pp 22 = 0 then 0 else 1
theorem wiP_t {pp : Nat → Int32} {k : Nat} (h : wiP pp k) : 1 = (if alS pp k < pp 3 then (0 : Int32) else if pp 4 < alS pp k then 0 else 1) := by rw [if_neg h.1, if_neg h.2]
theorem wiP_f {pp : Nat → Int32} {k : Nat} (h : ¬ wiP pp k) : 0 = (if alS pp k < pp 3 then (0 : Int32) else if pp 4 < alS pp k then 0 else 1) := by
  split
  · rfl
  · rename_i c1; split
    · rfl
    · rename_i c2; exact absurd ⟨c1, c2⟩ h
