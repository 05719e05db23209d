/-! The model's acts. -/
theorem bd_e {pp : Nat → Int32} {x y : Nat} {v : Int32} : upd pp (5 + 4 * x + y) v = bdP pp (4 * x + y) v := by unfold bdP; rw [show 5 + 4 * x + y = 5 + (4 * x + y) by omega]
theorem ad_e {pp : Nat → Int32} {n : Nat} {z h : Int32} (hc : pp 20 = nI n) : upd (upd (upd pp (23 + 4 * n + 0) z) (23 + 4 * n + 1) h) 20 ((upd (upd pp (23 + 4 * n + 0) z) (23 + 4 * n + 1) h) 20 + 1) = adP pp n z h := by
  rw [pk_un (j := 20) (by omega), pk_un (j := 20) (by omega), hc, nI_1, show 23 + 4 * n + 1 = 24 + 4 * n by omega, show 23 + 4 * n + 0 = 23 + 4 * n by omega]
  rfl
def leDn (pp : Nat → Int32) (dd : Nat → UInt64) (r : Nat) : Nat → Nat → UInt64
  | 0 => dd
  | n + 1 => vf_upd (leDn pp dd r n) (2 * r + n) (leA pp dd r n)
theorem leDn_2 {pp : Nat → Int32} {dd : Nat → UInt64} {r : Nat} : leDn pp dd r 2 = leD pp dd r := rfl
theorem leDn_hi {pp : Nat → Int32} {dd : Nat → UInt64} {r j : Nat} (hr : r < 24) (hj : 48 ≤ j) : ∀ n, n ≤ 2 → leDn pp dd r n j = dd j
  | 0, _ => rfl
  | n + 1, h => by
    show vf_upd _ _ _ j = _
    rw [vf_un (by omega)]; exact leDn_hi hr hj n (by omega)
theorem leDn_at {pp : Nat → Int32} {dd : Nat → UInt64} {r m : Nat} : ∀ n, n ≤ m → leDn pp dd r n (2 * r + m) = dd (2 * r + m)
  | 0, _ => rfl
  | n + 1, h => by
    show vf_upd _ _ _ _ = _
    rw [vf_un (by omega)]; exact leDn_at n (by omega)
def loS (x : Int32) : Int32 := if x < 3 then 1 else 0
def hiS (x : Int32) : Int32 := if x = 0 then 600 else if x = 1 then 100 else if x = 2 then 120 else 5400
def vaS (x v : Int32) : Prop := (¬ x < 0 ∧ ¬ 4 < x) ∧ ¬ v < loS x ∧ ¬ hiS x < v
def crS (pp : Nat → Int32) (x v : Int32) : Prop := (x = 3 ∧ pp 4 < v) ∨ (x = 4 ∧ v < pp 3)
theorem eN_lt {n : Nat} (h : n ≤ 4) : eN n < 4 := by unfold eN; split <;> omega
theorem ePs_4 {ps pa : Nat → Int32} : ePs ps pa 4 = cpo pa (shf ps 127 381) (127 * 3) 127 := rfl
theorem eDs_4 {ds da : Nat → UInt64} : eDs ds da 4 = cpo da (shf ds 52 156) (52 * 3) 52 := rfl
theorem ePs_n {ps pa : Nat → Int32} {n : Nat} (h : ¬ n = 4) : ePs ps pa n = cpo pa ps (127 * n) 127 := by unfold ePs eN; rw [if_neg h, if_neg h]
theorem eDs_n {ds da : Nat → UInt64} {n : Nat} (h : ¬ n = 4) : eDs ds da n = cpo da ds (52 * n) 52 := by unfold eDs eN; rw [if_neg h, if_neg h]
theorem eN_n {n : Nat} (h : ¬ n = 4) : eN n = n := by unfold eN; rw [if_neg h]
theorem nI_4 {n : Nat} (h : nI n = 4) (hn : n ≤ 4) : n = 4 := (nI_eq (b := 4) (by omega) (by decide)).mp h
theorem nI_n4 {n : Nat} (h : ¬ nI n = 4) : ¬ n = 4 := fun e => h (by subst e; rfl)
theorem sdS_u {pp p2 : Nat → Int32} {k : Nat} (h : p2 (23 + 4 * k) = pp (23 + 4 * k)) : nI (sdS p2 k) = nI (sdS pp k) := by show nI (sdN (p2 (23 + 4 * k))) = nI (sdN (pp (23 + 4 * k))); rw [h]
theorem go_e {pp : Nat → Int32} {dd : Nat → UInt64} {k : Nat} {f1 f2 : Int32} (h1 : f1 = if nI (sdS pp k) = pp 15 then 0 else 1) (h2 : f2 = fdI pp dd k) :
    upd (upd (upd (upd (upd (upd (upd (upd (upd (upd (upd pp 19 (pp 19 + f1)) 13 (ttS pp dd k)) 14 (plT pp dd k)) 15 (nI (sdS pp k))) 16 (pp 16 + slN pp dd k)) 17 (pp 17 + 1)) (23 + 4 * k + 2) (pp (25 + 4 * k) + 1)) 18 (pp 18 + f2)) (23 + 4 * k + 3) (pp (26 + 4 * k) + f2)) 21 (nI k)) 22 1 = goP pp dd k := by
  rw [show 23 + 4 * k + 2 = 25 + 4 * k by omega, show 23 + 4 * k + 3 = 26 + 4 * k by omega, h1, h2]; rfl
theorem n22_21 {pp : Nat → Int32} {cn : Nat} (hcn : cn ≤ 20) (h : ¬ pp 22 = 0 → ∃ k, k < cn ∧ pp 21 = nI k) (c : pp 21 = -1) : pp 22 = 0 := Classical.byContradiction fun z => by
  obtain ⟨k, hk, e⟩ := h z
  have e2 : (nI k).toInt = -1 := by rw [← e, c]; rfl
  rw [nI_toInt (by omega)] at e2
  omega
