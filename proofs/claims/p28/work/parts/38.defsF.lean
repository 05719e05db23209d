/-! A tour: the orders by their codes. -/
def qdN (m i : Nat) : Nat → Nat
  | 0 => i
  | n + 1 => qdN m i n / m
/-- the place's number in the order of code i -/
def dgN (m i j : Nat) : Nat := qdN m i (m - 1 - j) % m
def mkN (m i : Nat) : Nat → Int32
  | 0 => 0
  | n + 1 => mkN m i n ||| (1 <<< (nI (qdN m i n % m) &&& 31))
abbrev isP (m i : Nat) : Prop := mkN m i m = (1 <<< (nI m &&& 31)) - 1
def rwF (m i n : Nat) (rw : Nat → Int32) : Nat → Int32 := fun j => if m - n ≤ j ∧ j < m then nI (dgN m i j) else rw j
def pwN (m : Nat) : Nat → Nat
  | 0 => 1
  | n + 1 => pwN m n * m
theorem qd_le {m i : Nat} : ∀ n, qdN m i n ≤ i
  | 0 => Nat.le_refl _
  | n + 1 => Nat.le_trans (Nat.div_le_self _ _) (qd_le n)
theorem rw_0 {m i : Nat} {rw : Nat → Int32} : rwF m i 0 rw = rw := by
  funext j; unfold rwF; rw [if_neg (by omega)]
theorem rw_s {m i n k : Nat} {rw : Nat → Int32} (hk : m - n = k + 1) : upd (rwF m i n rw) k (nI (qdN m i n % m)) = rwF m i (n + 1) rw := by
  funext j; unfold upd rwF
  by_cases e : j = k
  · subst e; rw [if_pos rfl, if_pos (by omega)]; unfold dgN; rw [show m - 1 - j = n by omega]
  · rw [if_neg e]
    by_cases q : m - n ≤ j ∧ j < m
    · rw [if_pos q, if_pos (by omega)]
    · rw [if_neg q, if_neg (by omega)]
theorem io_n0 {k : Nat} (hk : k < 100) (c : nI k - 1 < 0) : k = 0 := by
  cases k with
  | zero => rfl
  | succ j =>
    have e : nI (j + 1) - 1 = nI j := (ix_sub (a := j + 1) (b := 1) rfl rfl (by omega)).trans (by congr 1)
    rw [e] at c
    exact absurd c (nI_pos (by omega))
theorem io_n1 {k : Nat} (hk : k < 100) (c : ¬ nI k - 1 < 0) : ∃ j, k = j + 1 ∧ nI k - 1 = nI j := by
  cases k with
  | zero => exact absurd (by decide) c
  | succ j => exact ⟨j, rfl, (ix_sub (a := j + 1) (b := 1) rfl rfl (by omega)).trans (by congr 1)⟩
/-- a tour's time along the stars f: the sum, and where the telescope stands -/
def tmS (pp : Nat → Int32) (dd : Nat → UInt64) (f : Nat → Nat) : Nat → Int32 × Int32 × Int32 × Int32
  | 0 => (0, pp 13, pp 14, pp 15)
  | n + 1 => ((tmS pp dd f n).1 + slF (ntF (tmS pp dd f n).2.1 (plZ pp dd (f n))) (plT pp dd (f n)) (nI (sdS pp (f n))) (tmS pp dd f n).2.1 (tmS pp dd f n).2.2.1 (tmS pp dd f n).2.2.2 (pp 0), ntF (tmS pp dd f n).2.1 (plZ pp dd (f n)), plT pp dd (f n), nI (sdS pp (f n)))
/-- the best order's code below n -/
def bcN (m : Nat) (f : Nat → Int32) : Nat → Option Nat
  | 0 => none
  | n + 1 => if isP m n then (match bcN m f n with
    | none => some n
    | some b => if f n < f b then some n else some b) else bcN m f n
section BCN
variable {m n b : Nat} {f : Nat → Int32}
theorem bc_out (c : ¬ isP m n) : bcN m f (n + 1) = bcN m f n := if_neg c
theorem bc_1 (c : isP m n) (h : bcN m f n = none) : bcN m f (n + 1) = some n := by unfold bcN; rw [if_pos c, h]
theorem bc_2 (c : isP m n) (h : bcN m f n = some b) (hl : f n < f b) : bcN m f (n + 1) = some n := by unfold bcN; rw [if_pos c, h]; exact if_pos hl
theorem bc_3 (c : isP m n) (h : bcN m f n = some b) (hl : ¬ f n < f b) : bcN m f (n + 1) = some b := by unfold bcN; rw [if_pos c, h]; exact if_neg hl
end BCN
theorem pw_le : ∀ m, m ≤ 5 → pwN m m ≤ 3125 := by decide
theorem optI_ltG {o : Option Nat} (h : ∀ q, o = some q → q < 4000) (c : optI o < 0) : o = none := by
  cases o with
  | none => rfl
  | some q => exact absurd c (by rw [show optI (some q) = nI q from rfl]; exact nI_pos (Nat.lt_trans (h q rfl) (by decide)))
theorem io_inc {x : Int32} {j k : Nat} (ek : x = nI k) (h : j = k) : x + (-1) = nI j - 1 := by
  rw [ek, h]; exact (Int32.sub_eq_add_neg (nI k) 1).symm
/-- the time of the order of code z -/
def tmC (pp : Nat → Int32) (dd : Nat → UInt64) (me : Nat → Nat) (m z : Nat) : Int32 := (tmS pp dd (fun j => me (dgN m z j)) m).1
