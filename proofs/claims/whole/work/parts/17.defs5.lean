/-! What an aim, a lesson, an order make of the state. -/
def ttS (pp : Nat → Int32) (dd : Nat → UInt64) (k : Nat) : Int32 := ntF (pp 13) (plZ pp dd k)
def slN (pp : Nat → Int32) (dd : Nat → UInt64) (k : Nat) : Int32 := slS pp dd k (pp 13) (pp 14) (pp 15)
def fdI (pp : Nat → Int32) (dd : Nat → UInt64) (k : Nat) : Int32 := if 0 < Op.cmpValue (FP.dcmp (szF (plMA pp dd k) (plMH pp dd k)) (FP.i2d (pp 2))) .g then 0 else 1
/-- the whole numbers behind an aim at star k -/
def goP (pp : Nat → Int32) (dd : Nat → UInt64) (k : Nat) : Nat → Int32 :=
  upd (upd (upd (upd (upd (upd (upd (upd (upd (upd (upd pp 19 (pp 19 + (if nI (sdS pp k) = pp 15 then 0 else 1))) 13 (ttS pp dd k)) 14 (plT pp dd k)) 15 (nI (sdS pp k))) 16 (pp 16 + slN pp dd k)) 17 (pp 17 + 1)) (25 + 4 * k) (pp (25 + 4 * k) + 1)) 18 (pp 18 + fdI pp dd k)) (26 + 4 * k) (pp (26 + 4 * k) + fdI pp dd k)) 21 (nI k)) 22 1
def goD (pp : Nat → Int32) (dd : Nat → UInt64) (k : Nat) : Nat → UInt64 :=
  vf_upd (vf_upd (vf_upd (vf_upd dd 50 (plA pp dd k)) 51 (plH pp dd k)) 48 (plMA pp dd k)) 49 (plMH pp dd k)
section GOP
variable {pp : Nat → Int32} {dd : Nat → UInt64} {k : Nat}
theorem goP_s : pg (goP pp dd k) 0 5 = pg pp 0 5 := by unfold goP; simp (disch := omega) only [pg_out]
theorem goP_b : pg (goP pp dd k) 5 8 = pg pp 5 8 := by unfold goP; simp (disch := omega) only [pg_out]
theorem goP_l (hk : k < 20) : pg (goP pp dd k) 103 24 = pg pp 103 24 := by unfold goP; simp (disch := omega) only [pg_out]
theorem goP_az : p4 (goP pp dd k) 23 20 = p4 pp 23 20 := by unfold goP; simp (disch := omega) only [p4_out]
theorem goP_al : p4 (goP pp dd k) 24 20 = p4 pp 24 20 := by unfold goP; simp (disch := omega) only [p4_out]
theorem goP_ai (hk : k < 20) : p4 (goP pp dd k) 25 20 = upd (p4 pp 25 20) k (p4 pp 25 20 k + 1) := by unfold goP; simp (disch := omega) only [p4_out, p4_in, p4_at]
theorem upd_self {f : Nat → Int32} {k : Nat} {v : Int32} (h : v = f k) : upd f k v = f := by
  funext i; unfold upd; split
  · rename_i e; rw [e, h]
  · rfl
theorem goP_fi (hk : k < 20) : p4 (goP pp dd k) 26 20 = upd (p4 pp 26 20) k (p4 pp 26 20 k + fdI pp dd k) := by unfold goP; simp (disch := omega) only [p4_out, p4_in, p4_at]
theorem goP_fiT (hk : k < 20) (h : fdP (szF (plMA pp dd k) (plMH pp dd k)) (pp 2)) : p4 (goP pp dd k) 26 20 = upd (p4 pp 26 20) k (p4 pp 26 20 k + 1) := by
  rw [goP_fi hk, show fdI pp dd k = 1 from if_neg h]
theorem goP_fiF (hk : k < 20) (h : ¬ fdP (szF (plMA pp dd k) (plMH pp dd k)) (pp 2)) : p4 (goP pp dd k) 26 20 = p4 pp 26 20 := by
  rw [goP_fi hk, show fdI pp dd k = 0 from if_pos (Classical.not_not.mp h), Int32.add_zero]
  exact upd_self rfl
theorem goP_13 : goP pp dd k 13 = ttS pp dd k := by unfold goP; simp (disch := omega) only [pk_un, pk_us]
theorem goP_14 : goP pp dd k 14 = plT pp dd k := by unfold goP; simp (disch := omega) only [pk_un, pk_us]
theorem goP_15 : goP pp dd k 15 = nI (sdS pp k) := by unfold goP; simp (disch := omega) only [pk_un, pk_us]
theorem goP_16 : goP pp dd k 16 = pp 16 + slN pp dd k := by unfold goP; simp (disch := omega) only [pk_un, pk_us]
theorem goP_17 : goP pp dd k 17 = pp 17 + 1 := by unfold goP; simp (disch := omega) only [pk_un, pk_us]
theorem goP_18 : goP pp dd k 18 = pp 18 + fdI pp dd k := by unfold goP; simp (disch := omega) only [pk_un, pk_us]
theorem goP_19 : goP pp dd k 19 = pp 19 + (if nI (sdS pp k) = pp 15 then 0 else 1) := by unfold goP; simp (disch := omega) only [pk_un, pk_us]
theorem goP_19e (h : nI (sdS pp k) = pp 15) : goP pp dd k 19 = pp 19 := by rw [goP_19, if_pos h, Int32.add_zero]
theorem goP_19n (h : ¬ nI (sdS pp k) = pp 15) : goP pp dd k 19 = pp 19 + 1 := by rw [goP_19, if_neg h]
theorem goP_20 (hk : k < 20) : goP pp dd k 20 = pp 20 := by unfold goP; simp (disch := omega) only [pk_un, pk_us]
theorem goP_21 : goP pp dd k 21 = nI k := by unfold goP; simp (disch := omega) only [pk_un, pk_us]
theorem goP_22 : goP pp dd k 22 = 1 := by unfold goP; simp (disch := omega) only [pk_un, pk_us]
theorem goD_a : d2 (goD pp dd k) 0 24 = d2 dd 0 24 := by unfold goD; simp (disch := omega) only [d2_out]
theorem goD_h : d2 (goD pp dd k) 1 24 = d2 dd 1 24 := by unfold goD; simp (disch := omega) only [d2_out]
theorem goD_50 : goD pp dd k 50 = plA pp dd k := by unfold goD; simp (disch := omega) only [vf_un, vf_us]
theorem goD_51 : goD pp dd k 51 = plH pp dd k := by unfold goD; simp (disch := omega) only [vf_un, vf_us]
theorem goD_48 : goD pp dd k 48 = plMA pp dd k := by unfold goD; simp (disch := omega) only [vf_un, vf_us]
theorem goD_49 : goD pp dd k 49 = plMH pp dd k := by unfold goD; simp (disch := omega) only [vf_un, vf_us]
end GOP
def cpP (pp : Nat → Int32) (dd : Nat → UInt64) (k : Nat) : Prop := wiP pp k ∧ ¬ 1000000 < pp 16 + slN pp dd k
/-- behind a lesson: r is the region of the latest aim -/
def leA (pp : Nat → Int32) (dd : Nat → UInt64) (r w : Nat) : UInt64 := tchF (if pp (103 + r) = 0 then dd (50 + w) else dd (2 * r + w)) (dd (48 + w)) (pp 1)
def leP (pp : Nat → Int32) (r : Nat) : Nat → Int32 := upd (upd pp (103 + r) (pp (103 + r) + 1)) 22 0
def leD (pp : Nat → Int32) (dd : Nat → UInt64) (r : Nat) : Nat → UInt64 := vf_upd (vf_upd dd (2 * r + 0) (leA pp dd r 0)) (2 * r + 1) (leA pp dd r 1)
def leOK (pp : Nat → Int32) (dd : Nat → UInt64) (r : Nat) : Prop := tchOK (if pp (103 + r) = 0 then dd 50 else dd (2 * r + 0)) (dd 48) (pp 1) ∧ tchOK (if pp (103 + r) = 0 then dd 51 else dd (2 * r + 1)) (dd 49) (pp 1)
section LEP
variable {pp : Nat → Int32} {dd : Nat → UInt64} {r : Nat}
theorem leP_s : pg (leP pp r) 0 5 = pg pp 0 5 := by unfold leP; simp (disch := omega) only [pg_out]
theorem leP_b : pg (leP pp r) 5 8 = pg pp 5 8 := by unfold leP; simp (disch := omega) only [pg_out]
theorem leP_l (hr : r < 24) : pg (leP pp r) 103 24 = upd (pg pp 103 24) r (pg pp 103 24 r + 1) := by unfold leP; simp (disch := omega) only [pg_out, pg_in, pg_at]
theorem leP_az : p4 (leP pp r) 23 20 = p4 pp 23 20 := by unfold leP; simp (disch := omega) only [p4_out]
theorem leP_al : p4 (leP pp r) 24 20 = p4 pp 24 20 := by unfold leP; simp (disch := omega) only [p4_out]
theorem leP_ai : p4 (leP pp r) 25 20 = p4 pp 25 20 := by unfold leP; simp (disch := omega) only [p4_out]
theorem leP_fi : p4 (leP pp r) 26 20 = p4 pp 26 20 := by unfold leP; simp (disch := omega) only [p4_out]
theorem leP_o {j : Nat} (h : j < 22) : leP pp r j = pp j := by unfold leP; simp (disch := omega) only [pk_un]
theorem leP_22 : leP pp r 22 = 0 := by unfold leP; simp only [pk_us]
theorem leD_a (hr : r < 24) : d2 (leD pp dd r) 0 24 = vf_upd (d2 dd 0 24) r (leA pp dd r 0) := by unfold leD; simp (disch := omega) only [d2_out, d2_in]
theorem leD_h (hr : r < 24) : d2 (leD pp dd r) 1 24 = vf_upd (d2 dd 1 24) r (leA pp dd r 1) := by unfold leD; simp (disch := omega) only [d2_out, d2_in]
theorem leD_o {j : Nat} (hr : r < 24) (h : 48 ≤ j) : leD pp dd r j = dd j := by unfold leD; simp (disch := omega) only [vf_un]
end LEP
