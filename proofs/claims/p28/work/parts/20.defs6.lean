/-! The model's own words. -/
theorem pp_e {pp : Nat → Int32} {a b : Nat} (h : a = b) : pp a = pp b := congrArg pp h
theorem dd_e {dd : Nat → UInt64} {a b : Nat} (h : a = b) : dd a = dd b := congrArg dd h
def cpf {α : Type} (f h : Nat → α) (k : Nat) : Nat → α := fun j => if j < k then f j else h j
theorem cpf_0 {α : Type} {f h : Nat → α} : cpf f h 0 = h := by funext j; unfold cpf; rw [if_neg (Nat.not_lt_zero _)]
theorem cpf_s {f h : Nat → Int32} {k : Nat} : upd (cpf f h k) k (f k) = cpf f h (k + 1) := by
  funext j; unfold upd cpf
  by_cases e : j = k
  · subst e; rw [if_pos rfl, if_pos (Nat.lt_succ_self _)]
  · rw [if_neg e]
    by_cases q : j < k
    · rw [if_pos q, if_pos (by omega)]
    · rw [if_neg q, if_neg (by omega)]
theorem cpf_sD {f h : Nat → UInt64} {k : Nat} : vf_upd (cpf f h k) k (f k) = cpf f h (k + 1) := by
  funext j; unfold vf_upd cpf
  by_cases e : j = k
  · subst e; rw [if_pos rfl, if_pos (Nat.lt_succ_self _)]
  · rw [if_neg e]
    by_cases q : j < k
    · rw [if_pos q, if_pos (by omega)]
    · rw [if_neg q, if_neg (by omega)]
theorem cpf_in {α : Type} {f h : Nat → α} {n : Nat} : ∀ j, j < n → cpf f h n j = f j := fun j hj => if_pos hj
/-- shifted down by w, the first k of them -/
def shf {α : Type} (h : Nat → α) (w k : Nat) : Nat → α := fun j => if j < k then h (j + w) else h j
theorem shf_0 {α : Type} {h : Nat → α} {w : Nat} : shf h w 0 = h := by funext j; unfold shf; rw [if_neg (Nat.not_lt_zero _)]
theorem shf_at {α : Type} {h : Nat → α} {w k : Nat} : shf h w k (k + w) = h (k + w) := if_neg (by omega)
theorem shf_s {h : Nat → Int32} {w k : Nat} : upd (shf h w k) k (h (k + w)) = shf h w (k + 1) := by
  funext j; unfold upd shf
  by_cases e : j = k
  · subst e; rw [if_pos rfl, if_pos (Nat.lt_succ_self _)]
  · rw [if_neg e]
    by_cases q : j < k
    · rw [if_pos q, if_pos (by omega)]
    · rw [if_neg q, if_neg (by omega)]
theorem shf_sD {h : Nat → UInt64} {w k : Nat} : vf_upd (shf h w k) k (h (k + w)) = shf h w (k + 1) := by
  funext j; unfold vf_upd shf
  by_cases e : j = k
  · subst e; rw [if_pos rfl, if_pos (Nat.lt_succ_self _)]
  · rw [if_neg e]
    by_cases q : j < k
    · rw [if_pos q, if_pos (by omega)]
    · rw [if_neg q, if_neg (by omega)]
/-- a page laid in from o on, the first k of it -/
def cpo {α : Type} (f h : Nat → α) (o k : Nat) : Nat → α := fun j => if o ≤ j ∧ j < o + k then f (j - o) else h j
theorem cpo_0 {α : Type} {f h : Nat → α} {o : Nat} : cpo f h o 0 = h := by funext j; unfold cpo; rw [if_neg (by omega)]
theorem cpo_s {f h : Nat → Int32} {o k : Nat} : upd (cpo f h o k) (o + k) (f k) = cpo f h o (k + 1) := by
  funext j; unfold upd cpo
  by_cases e : j = o + k
  · subst e; rw [if_pos rfl, if_pos (by omega), show o + k - o = k by omega]
  · rw [if_neg e]
    by_cases q : o ≤ j ∧ j < o + k
    · rw [if_pos q, if_pos (by omega)]
    · rw [if_neg q, if_neg (by omega)]
theorem cpo_sD {f h : Nat → UInt64} {o k : Nat} : vf_upd (cpo f h o k) (o + k) (f k) = cpo f h o (k + 1) := by
  funext j; unfold vf_upd cpo
  by_cases e : j = o + k
  · subst e; rw [if_pos rfl, if_pos (by omega), show o + k - o = k by omega]
  · rw [if_neg e]
    by_cases q : o ≤ j ∧ j < o + k
    · rw [if_pos q, if_pos (by omega)]
    · rw [if_neg q, if_neg (by omega)]
def eN (n : Nat) : Nat := if n = 4 then 3 else n
def ePs (ps pa : Nat → Int32) (n : Nat) : Nat → Int32 := cpo pa (if n = 4 then shf ps 127 381 else ps) (127 * eN n) 127
def eDs (ds da : Nat → UInt64) (n : Nat) : Nat → UInt64 := cpo da (if n = 4 then shf ds 52 156 else ds) (52 * eN n) 52
theorem neg_abs {x : Int32} (c : ¬ 0 ≤ x) : -x = absI x := by unfold absI; rw [if_neg c]; exact (Int32.zero_sub x).symm
theorem btw_le : ∀ i, i < 24 → ∀ k, k < 24 → absI ((nI i) / 3 - (nI k) / 3) ≤ 4 → (absI ((nI i) / 3 - (nI k) / 3) + absI (((nI i) - (nI i) / 3 * 3) - ((nI k) - (nI k) / 3 * 3)) : Int32) = nI (dsN i k) := by decide +kernel
theorem btw_gt : ∀ i, i < 24 → ∀ k, k < 24 → ¬ absI ((nI i) / 3 - (nI k) / 3) ≤ 4 → (8 - absI ((nI i) / 3 - (nI k) / 3) + absI (((nI i) - (nI i) / 3 * 3) - ((nI k) - (nI k) / 3 * 3)) : Int32) = nI (dsN i k) := by decide +kernel
theorem optI_lt0 {o : Option Nat} (h : ∀ q, o = some q → q < 24) (c : optI o < 0) : o = none := by
  cases o with
  | none => rfl
  | some q => exact absurd c (by rw [show optI (some q) = nI q from rfl]; exact nI_pos (Nat.lt_trans (h q rfl) (by decide)))
theorem optI_ge0 {o : Option Nat} (c : ¬ optI o < 0) : ∃ q, o = some q := by
  cases o with
  | none => exact absurd (by decide) c
  | some q => exact ⟨q, rfl⟩
def szOK (x y : UInt64) : Prop := FP.dcmp (absF x) (absF y) = some .eq → absF x = absF y
theorem cmpl_pos {x y : UInt64} (c : ¬ Op.cmpValue (FP.dcmp x y) .l ≤ 0) : ¬ Op.cmpValue (FP.dcmp x y) .l < 0 := fun h => c (Int32.le_of_lt h)
theorem gr_le {x y : UInt64} (z : szOK x y) (c : Op.cmpValue (FP.dcmp (absF x) (absF y)) .l ≤ 0) : absF y = szF x y := by
  unfold szF
  by_cases h : Op.cmpValue (FP.dcmp (absF x) (absF y)) .l < 0
  · rw [if_pos h]
  · rw [if_neg h]
    unfold szOK at z
    cases hd : FP.dcmp (absF x) (absF y) with
    | none => rw [hd] at h; exact absurd (by decide) h
    | some o =>
      cases o with
      | lt => rw [hd] at h; exact absurd (by decide) h
      | eq => exact (z hd).symm
      | gt => rw [hd] at c; exact absurd c (by decide)
theorem mx_le {x y : Int32} (c : x ≤ y) : y = mxI x y := by
  unfold mxI
  by_cases h : x < y
  · rw [if_pos h]
  · rw [if_neg h]; exact Int32.le_antisymm (Int32.not_lt.mp h) c
theorem mx_gt {x y : Int32} (c : ¬ x ≤ y) : x = mxI x y := by
  unfold mxI
  rw [if_neg (fun h => c (Int32.le_of_lt h))]
theorem hg_1 {x : Int32} (c : ¬ 0 ≤ x) : (0 : Int32) = hgF x := by unfold hgF; rw [if_pos (Int32.not_le.mp c)]
theorem hg_2 {x : Int32} (c : 0 ≤ x) (c2 : x ≤ 5400) : x = hgF x := by unfold hgF; rw [if_neg (Int32.not_lt.mpr c), if_neg (Int32.not_lt.mpr c2)]
theorem hg_3 {x : Int32} (c : 0 ≤ x) (c2 : ¬ x ≤ 5400) : (5400 : Int32) = hgF x := by unfold hgF; rw [if_neg (Int32.not_lt.mpr c), if_pos (Int32.not_le.mp c2)]
theorem cm_up {x : Int32} (c : ¬ 0 ≤ x) : cmF (x + 21600) = cmF x ∧ (x + 21600).toInt = x.toInt + 21600 ∧ x.toInt < 0 := by
  have h : x.toInt < 0 := by rw [Int32.le_iff_toInt_le] at c; have h0 : (0 : Int32).toInt = 0 := rfl; omega
  have k : (21600 : Int32).toInt = 21600 := rfl
  have hl := Int32.le_toInt x
  have e : (x + 21600).toInt = x.toInt + 21600 := by rw [Jvm.Kit.i32_add (by rw [k]; omega) (by rw [k]; omega), k]
  refine ⟨?_, e, h⟩
  unfold cmF; rw [e, show (x.toInt + 21600) % 21600 = x.toInt % 21600 by omega]
theorem cm_dn {x : Int32} (c : ¬ x < 21600) : cmF (x + (-21600)) = cmF x ∧ (x + (-21600)).toInt = x.toInt - 21600 ∧ 21600 ≤ x.toInt := by
  have h : 21600 ≤ x.toInt := by rw [Int32.lt_iff_toInt_lt] at c; have h0 : (21600 : Int32).toInt = 21600 := rfl; omega
  have k : (-21600 : Int32).toInt = -21600 := rfl
  have hl := Int32.toInt_lt x
  have e : (x + (-21600)).toInt = x.toInt - 21600 := by rw [Jvm.Kit.i32_add (by rw [k]; omega) (by rw [k]; omega), k]; omega
  refine ⟨?_, e, h⟩
  unfold cmF; rw [e, show (x.toInt - 21600) % 21600 = x.toInt % 21600 by omega]
theorem cm_in {x : Int32} (h : 0 ≤ x.toInt) (c : x < 21600) : x = cmF x := by
  have h2 : x.toInt < 21600 := by rw [Int32.lt_iff_toInt_lt] at c; exact c
  refine i32_eq ?_
  rw [cmF_toInt]; omega
theorem cm_rng (x : Int32) : 0 ≤ (cmF x).toInt ∧ (cmF x).toInt < 21600 := by rw [cmF_toInt]; omega
theorem nt_hi {t a : Int32} (c : ¬ a ≤ 16200) (h : (a.toInt : Int) < 21600) : a - 21600 = ntF t a := by
  have h1 : 16200 < a.toInt := by rw [Int32.le_iff_toInt_le] at c; have k : (16200 : Int32).toInt = 16200 := rfl; omega
  unfold ntF
  rw [if_neg c]
  split
  · rfl
  · rename_i c2
    refine absurd ?_ c2
    have k : (21600 : Int32).toInt = 21600 := rfl
    have k2 : (-16200 : Int32).toInt = -16200 := rfl
    rw [Int32.le_iff_toInt_le, Jvm.Kit.i32_sub (by rw [k]; omega) (by rw [k]; omega), k, k2]; omega
theorem nt_lo {t a : Int32} (c : a ≤ 16200) (c2 : -16200 ≤ a - 21600) (c3 : absI (a - 21600 - t) ≤ absI (a - t)) : a - 21600 = ntF t a := by unfold ntF; rw [if_pos c2, if_pos c, if_pos c3]
theorem nt_st {t a : Int32} (c : a ≤ 16200) (c2 : -16200 ≤ a - 21600) (c3 : ¬ absI (a - 21600 - t) ≤ absI (a - t)) : a = ntF t a := by unfold ntF; rw [if_pos c2, if_pos c, if_neg c3]
theorem nt_no {t a : Int32} (c2 : ¬ -16200 ≤ a - 21600) : a = ntF t a := by unfold ntF; rw [if_neg c2]
theorem optI_nm1 {q : Nat} (h : q < 24) : ¬ optI (some q) = -1 := fun e => by
  have := (optI_m1 (o := some q) (fun z hz => by cases hz; exact h)).mp e
  cases this
theorem tm_eq {tt hh t h z sp s1 : Int32} (hsp : 1 ≤ sp) (c : z = s1) : (mxI (absI (tt - t)) (absI (hh - h)) + sp - 1) / sp + 0 = slF tt hh s1 t h z sp := by
  unfold slF tmF divUp; rw [if_pos c.symm, if_pos hsp, Int32.add_zero]
theorem tm_ne {tt hh t h z sp s1 : Int32} (hsp : 1 ≤ sp) (c : ¬ z = s1) : (mxI (absI (tt - t)) (absI (hh - h)) + sp - 1) / sp + 60 = slF tt hh s1 t h z sp := by
  unfold slF tmF divUp; rw [if_neg (fun e => c e.symm), if_pos hsp]
