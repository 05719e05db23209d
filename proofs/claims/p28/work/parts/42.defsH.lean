/-- the bits of a double as they are told -/
def dbL (x : UInt64) : Int64 := if Op.cmpValue (FP.dcmp x x) .l = 0 then x.toInt64 else 9221120237041090560
theorem dbL_0 {x : UInt64} (h : Op.cmpValue (FP.dcmp x x) .l = 0) : x.toInt64 = dbL x := (if_pos h).symm
theorem dbL_1 {x : UInt64} (h : ¬ Op.cmpValue (FP.dcmp x x) .l = 0) : 9221120237041090560 = dbL x := (if_neg h).symm
def mxF (f : Nat → Int64) (h : Int64) : Nat → Int64
  | 0 => h
  | n + 1 => 31 * mxF f h n + f n
def mxS (pp : Nat → Int32) (h : Int64) : Nat → Int64
  | 0 => h
  | n + 1 => mxF (fun w => (sfF pp n (nI w)).toInt64) (mxS pp h n) 7
def mxR (pp : Nat → Int32) (dd : Nat → UInt64) (h : Int64) : Nat → Int64
  | 0 => h
  | n + 1 => 31 * (31 * (31 * mxR pp dd h n + (pp (103 + n)).toInt64) + dbL (hldF (pg pp 103 24) (d2 dd 0 24) n)) + dbL (hldF (pg pp 103 24) (d2 dd 1 24) n)
def hsA (pp : Nat → Int32) (cn L : Nat) : Int64 := mxF (fun k => (nbF pp cn (nI k)).toInt64) (31 * 3697 + (nI L).toInt64) 12
def hsB (pp : Nat → Int32) (cn L : Nat) : Int64 := mxF (fun k => (pp k).toInt64) (hsA pp cn L) 13
def hsC (pp : Nat → Int32) (cn L : Nat) : Int64 := mxS pp (hsB pp cn L) cn
def hsD (pp : Nat → Int32) (dd : Nat → UInt64) (cn L : Nat) : Int64 := mxR pp dd (hsC pp cn L) 24
def hsE (pp : Nat → Int32) (dd : Nat → UInt64) (cn L : Nat) : Int64 := if pp 21 = -1 then hsD pp dd cn L else mxF (fun k => dbL (misF dd (nI k))) (hsD pp dd cn L) 3
def hsF (pp : Nat → Int32) (dd : Nat → UInt64) (cn L n : Nat) : Int64 := 31 * hsE pp dd cn L + (nI n).toInt64
