/-! The shared words: what both sides answer. -/
theorem ne_toInt {x k : Int32} (h : ¬ x = k) : x.toInt ≠ k.toInt := fun e => h (Int32.toInt_inj.mp e)
theorem nz_n {x : Int32} (h : x = 0 ∨ x = 1) : narrow .boolean (.int x) = .int x := by rcases h with h | h <;> subst h <;> rfl
theorem nz_f {x : Int32} (h : x = 0 ∨ x = 1) : fits .boolean (.int x) = true := by rcases h with h | h <;> subst h <;> rfl
theorem ix_m1 {x : Int32} {a : Nat} (hx : x = nI a) (h : 1 ≤ a) : x + (-1) = nI (a - 1) := by subst hx; obtain ⟨b, rfl⟩ : ∃ b, a = b + 1 := ⟨a - 1, by omega⟩; exact pk_m1 b
theorem ne0_of_1le {d : Int32} (h : 1 ≤ d) : ¬ d = 0 := by intro e; subst e; exact absurd h (by decide)
def absI (x : Int32) : Int32 := if 0 ≤ x then x else 0 - x
/-- a double rounded, as the document says -/
def rndF (x : UInt64) : Int32 := if Op.cmpValue (FP.dcmp x FP.dconst0) .l < 0 then -(FP.d2i (FP.dsub 4602678819172646912 x)) else FP.d2i (FP.dadd x 4602678819172646912)
def absF (x : UInt64) : UInt64 := if 0 ≤ Op.cmpValue (FP.dcmp x FP.dconst0) .g then x else FP.dneg x
def divUp (n d : Int32) : Int32 := if 1 ≤ d then (n + d - 1) / d else 0
def ntF (t a : Int32) : Int32 := if -16200 ≤ a - 21600 then (if a ≤ 16200 then (if absI (a - 21600 - t) ≤ absI (a - t) then a - 21600 else a) else a - 21600) else a
def mxI (x y : Int32) : Int32 := if x < y then y else x
def mnI (x y : Int32) : Int32 := if y < x then y else x
theorem nI_le_of {a b : Nat} (h : nI a ≤ nI b) (ha : a < 2 ^ 31) (hb : b < 2 ^ 31) : a ≤ b := (nI_leI ha hb).mp h
theorem nI_lt_of {a b : Nat} (h : nI a < nI b) (ha : a < 2 ^ 31) (hb : b < 2 ^ 31) : a < b := (nI_ltI ha hb).mp h
theorem nI_nle_of {a b : Nat} (h : ¬ nI a ≤ nI b) (ha : a < 2 ^ 31) (hb : b < 2 ^ 31) : b < a := Nat.lt_of_not_le fun q => h ((nI_leI ha hb).mpr q)
theorem nI_nlt_of {a b : Nat} (h : ¬ nI a < nI b) (ha : a < 2 ^ 31) (hb : b < 2 ^ 31) : b ≤ a := Nat.le_of_not_lt fun q => h ((nI_ltI ha hb).mpr q)
theorem arrV_congr {cI : ClassId} {N : Nat} {f h : Nat → Value} (e : ∀ j, j < N → f j = h j) : arrV cI N f = arrV cI N h := by
  unfold arrV
  have : (Array.ofFn (n := N) fun j => f j.val) = Array.ofFn (n := N) fun j => h j.val := by
    congr 1; funext j; exact e j.val j.isLt
  rw [this]
theorem va_P_cont {D : va_G} {ws : va_W} {H : Heap} {q0 a : Nat} {c : ClassId} {x y : vp_A} (hP : va_P D vwCl ws H) (he : ws[q0]? = some (a, .inl (c, x))) (h : vp_cell c x = vp_cell c y) : va_P D vwCl (ws.set q0 (a, .inl (c, y))) H := by
  have hl := (List.getElem?_eq_some_iff.mp he).1
  intro k q hk
  by_cases hkq : k = q0
  · subst hkq
    rw [List.getElem?_set_self hl] at hk
    cases hk
    have h1 := hP k _ he
    show H[a]? = some (vp_cell c y)
    rw [← h]; exact h1
  · rw [List.getElem?_set_ne (Ne.symm hkq)] at hk
    exact hP k q hk
/-- an array's content, said otherwise within its length -/
theorem g_contI {D : va_G} {A : Nat → Prop} {ws : va_W} {H : Heap} {q0 a n : Nat} {c : ClassId} {f : Nat → Int32} (h2 : Nat → Int32) (hP : va_P D vwCl ws H) (hD : va_D A ws) (he : ws[q0]? = some (a, .inl (c, n, .inl f))) (h : ∀ j, j < n → f j = h2 j) : va_P D vwCl (ws.set q0 (a, .inl (c, n, .inl h2))) H ∧ va_D A (ws.set q0 (a, .inl (c, n, .inl h2))) :=
  ⟨va_P_cont hP he (by rw [vp_cell_i, vp_cell_i]; exact arrV_congr fun j hj => by rw [h j hj]), hD.set he⟩
theorem g_contD {D : va_G} {A : Nat → Prop} {ws : va_W} {H : Heap} {q0 a n : Nat} {c : ClassId} {f : Nat → UInt64} (h2 : Nat → UInt64) (hP : va_P D vwCl ws H) (hD : va_D A ws) (he : ws[q0]? = some (a, .inl (c, n, .inr (.inr (.inr (.inl f)))))) (h : ∀ j, j < n → f j = h2 j) : va_P D vwCl (ws.set q0 (a, .inl (c, n, .inr (.inr (.inr (.inl h2)))))) H ∧ va_D A (ws.set q0 (a, .inl (c, n, .inr (.inr (.inr (.inl h2)))))) :=
  ⟨va_P_cont hP he (by rw [vp_cell_d, vp_cell_d]; exact arrV_congr fun j hj => by rw [h j hj]), hD.set he⟩
theorem cpy_in {α : Type} {f g : Nat → α} {n : Nat} : ∀ j, j < n → va_cpy f g 0 0 n j = f j := fun j hj => by
  unfold va_cpy; rw [if_pos ⟨Nat.zero_le _, by omega⟩]; congr 1; omega
theorem vf_us {α : Type} {f : Nat → α} {k : Nat} {x : α} : vf_upd f k x k = x := if_pos rfl
theorem vf_un {α : Type} {f : Nat → α} {k j : Nat} {x : α} (h : j ≠ k) : vf_upd f k x j = f j := if_neg h
theorem vf_uu {α : Type} {f : Nat → α} {k : Nat} {x y : α} : vf_upd (vf_upd f k x) k y = vf_upd f k y := by
  funext j; unfold vf_upd; split <;> rfl
theorem upd_uu {f : Nat → Int32} {k : Nat} {x y : Int32} : upd (upd f k x) k y = upd f k y := by
  funext j; unfold upd; split <;> rfl
-- stars
def sdF (a : Int32) : Int32 := if 10800 ≤ a then 1 else 0
def rgF (a h : Int32) : Int32 := 3 * (a / 2700) + h / 1801
def sumI (f : Nat → Int32) : Nat → Int32
  | 0 => 0
  | n + 1 => sumI f n + f n
def cntI (f : Nat → Int32) : Nat → Int32
  | 0 => 0
  | n + 1 => if f n ≤ 0 then cntI f n else cntI f n + 1
-- regions
def dsN (a b : Nat) : Nat := (let o := if a / 3 < b / 3 then b / 3 - a / 3 else a / 3 - b / 3; if 8 - o < o then 8 - o else o) + (if a % 3 < b % 3 then b % 3 - a % 3 else a % 3 - b % 3)
def srcN (le : Nat → Int32) (k : Nat) : Nat → Option Nat
  | 0 => none
  | n + 1 => match srcN le k n with
    | none => if 0 < le n then some n else none
    | some q => if 0 < le n ∧ dsN k n < dsN k q then some n else some q
def optI : Option Nat → Int32
  | none => -1
  | some q => nI q
theorem srcN_lt {le : Nat → Int32} {k : Nat} : ∀ n q, srcN le k n = some q → q < n
  | 0, q, h => by simp [srcN] at h
  | n + 1, q, h => by
    unfold srcN at h
    split at h
    · split at h
      · cases h; omega
      · cases h
    · rename_i q2 h2
      have := srcN_lt n q2 h2
      split at h <;> (cases h; omega)
theorem srcN_pos {le : Nat → Int32} {k : Nat} : ∀ n q, srcN le k n = some q → 0 < le q
  | 0, q, h => by simp [srcN] at h
  | n + 1, q, h => by
    unfold srcN at h
    split at h
    · split at h
      · cases h; assumption
      · cases h
    · rename_i q2 h2
      have := srcN_pos n q2 h2
      split at h
      · rename_i h3; cases h; exact h3.1
      · cases h; exact this
def hldF (le : Nat → Int32) (f : Nat → UInt64) (k : Nat) : UInt64 := match srcN le k 24 with
  | none => FP.dconst0
  | some q => f q
theorem optI_m1 {o : Option Nat} (h : ∀ q, o = some q → q < 24) : optI o = -1 ↔ o = none := by
  cases o with
  | none => exact ⟨fun _ => rfl, fun _ => rfl⟩
  | some q =>
    have hq := h q rfl
    refine ⟨fun e => ?_, fun e => by cases e⟩
    have e2 : (nI q).toInt = -1 := by rw [show nI q = -1 from e]; rfl
    rw [nI_toInt (by omega)] at e2
    omega
-- lessons
def tchF (c m : UInt64) (rt : Int32) : UInt64 := FP.dadd c (FP.ddiv (FP.dmul m (FP.i2d rt)) 4636737291354636288)
def tchOK (c m : UInt64) (rt : Int32) : Prop := vf_n64 (FP.dmul m (FP.i2d rt)) ∧ vf_n64 (FP.ddiv (FP.dmul m (FP.i2d rt)) 4636737291354636288) ∧ vf_n64 (tchF c m rt)
-- slews
def tmF (tt hh t h sp : Int32) : Int32 := divUp (mxI (absI (tt - t)) (absI (hh - h))) sp
def slF (tt hh sd t h s0 sp : Int32) : Int32 := if sd = s0 then tmF tt hh t h sp else tmF tt hh t h sp + 60
def szF (x y : UInt64) : UInt64 := if Op.cmpValue (FP.dcmp (absF x) (absF y)) .l < 0 then absF y else absF x
def mnF (x y : UInt64) (w : Int32) : UInt64 := if w = 0 then x else if w = 1 then y else szF x y
theorem dist_ok : ∀ i, i < 24 → ∀ k, k < 24 → ((mnI (absI ((nI i) / 3 - (nI k) / 3)) (8 - (absI ((nI i) / 3 - (nI k) / 3)))) + (absI (((nI i) - (nI i) / 3 * 3) - ((nI k) - (nI k) / 3 * 3))) : Int32) = nI (dsN i k) := by decide +kernel
theorem srcN_skip {le : Nat → Int32} {k i : Nat} {o : Option Nat} (ho : o = srcN le k i) (c : le i ≤ 0) : o = srcN le k (i + 1) := by
  have h : ¬ 0 < le i := Int32.not_lt.mpr c
  unfold srcN
  rw [← ho]
  cases o with
  | none => exact (if_neg h).symm
  | some q => exact (if_neg (fun z => h z.1)).symm
theorem srcN_first {le : Nat → Int32} {k i : Nat} {o : Option Nat} {v : Int32} (ho : o = srcN le k i) (hv : ∀ q, o = some q → v = nI (dsN k q) ∧ q < 24) (c : ¬ le i ≤ 0) (c2 : optI o = -1) : some i = srcN le k (i + 1) := by
  have h : 0 < le i := Int32.not_le.mp c
  have e := (optI_m1 (fun q hq => (hv q hq).2)).mp c2
  unfold srcN
  rw [← ho, e]
  exact (if_pos h).symm
theorem dsN_lt {a b : Nat} (ha : a < 24) (hb : b < 24) : dsN a b < 100 := by
  unfold dsN
  simp only
  split <;> split <;> split <;> omega
theorem srcN_far {le : Nat → Int32} {k i : Nat} {o : Option Nat} {v : Int32} (ho : o = srcN le k i) (hv : ∀ q, o = some q → v = nI (dsN k q) ∧ q < 24) (c : ¬ le i ≤ 0) (c2 : ¬ optI o = -1) (c3 : v ≤ nI (dsN k i)) (hi : i < 24) (hk : k < 24) : o = srcN le k (i + 1) := by
  cases o with
  | none => exact absurd rfl c2
  | some q =>
    obtain ⟨e, hq⟩ := hv q rfl
    rw [e] at c3
    have h3 := nI_le_of c3 (Nat.lt_trans (dsN_lt hk hq) (by decide)) (Nat.lt_trans (dsN_lt hk hi) (by decide))
    unfold srcN
    rw [← ho]
    exact (if_neg (fun z => absurd z.2 (by omega))).symm
theorem srcN_near {le : Nat → Int32} {k i : Nat} {o : Option Nat} {v : Int32} (ho : o = srcN le k i) (hv : ∀ q, o = some q → v = nI (dsN k q) ∧ q < 24) (c : ¬ le i ≤ 0) (c2 : ¬ optI o = -1) (c3 : ¬ v ≤ nI (dsN k i)) (hi : i < 24) (hk : k < 24) : some i = srcN le k (i + 1) := by
  cases o with
  | none => exact absurd rfl c2
  | some q =>
    obtain ⟨e, hq⟩ := hv q rfl
    rw [e] at c3
    have h3 := nI_nle_of c3 (Nat.lt_trans (dsN_lt hk hq) (by decide)) (Nat.lt_trans (dsN_lt hk hi) (by decide))
    have h : 0 < le i := Int32.not_le.mp c
    unfold srcN
    rw [← ho]
    exact (if_pos ⟨h, h3⟩).symm
