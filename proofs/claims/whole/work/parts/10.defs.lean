/-! The shared words: what both sides answer. -/
theorem ne_toInt {x k : Int32} (h : ¬ x = k) : x.toInt ≠ k.toInt := fun e => h (Int32.toInt_inj.mp e)
theorem nz_n {x : Int32} (h : x = 0 ∨ x = 1) : narrow .boolean (.int x) = .int x := by rcases h with h | h <;> subst h <;> rfl
theorem nz_f {x : Int32} (h : x = 0 ∨ x = 1) : fits .boolean (.int x) = true := by rcases h with h | h <;> subst h <;> rfl
theorem ix_m1 {x : Int32} {a : Nat} (hx : x = nI a) (h : 1 ≤ a) : x + (-1) = nI (a - 1) := by subst hx; obtain ⟨b, rfl⟩ : ∃ b, a = b + 1 := ⟨a - 1, by omega⟩; exact pk_m1 b
theorem ne0_of_1le {d : Int32} (h : 1 ≤ d) : ¬ d = 0 := by intro e; subst e; exact absurd h (by decide)
def absI (x : Int32) : Int32 := if 0 ≤ x then x else 0 - x
/-- a double rounded, as the document says -/
def rndF (x : UInt64) : Int32 := if Op.cmpValue (FP.dcmp x FP.dconst0) .l < 0 then -(FP.d2i (FP.dsub 4602678819172646912 x)) else FP.d2i (FP.dadd x 4602678819172646912)
def absF (x : UInt64) : UInt64 := if 0 ≤ Op.cmpValue (FP.dcmp x FP.dconst0) .g then x else FP.dneg x
def divUp (n d : Int32) : Int32 := if 1 ≤ d then (n + d - 1) / d else 0
def ntF (t a : Int32) : Int32 := if -16200 ≤ a - 21600 then (if a ≤ 16200 then (if absI (a - 21600 - t) ≤ absI (a - t) then a - 21600 else a) else a - 21600) else a
