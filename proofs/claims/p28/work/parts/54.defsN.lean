/-! The saved states, and what a change leaves of a state's pages. -/
def rtQ {α : Type} (f : Nat → α) : Nat → α := fun i => if i < 3 then f (i + 1) else f 0
def svQ {α : Type} (n : Nat) (f : Nat → α) : Nat → α := if n = 4 then rtQ f else f
def svP {α : Type} (n : Nat) (f : Nat → α) (x : α) : Nat → α := va_up (svQ n f) (eN n) x
theorem sv4_rt {f : Nat → Nat → Nat} : va_up (va_up (va_up (va_up (sv4 f) 0 (some (f 1 0))) 1 (some (f 2 0))) 2 (some (f 3 0))) 3 (some (f 0 0)) = sv4 (rtQ f) := by
  funext i
  unfold va_up sv4 rtQ
  match i with
  | 0 => rfl
  | 1 => rfl
  | 2 => rfl
  | 3 => rfl
  | j + 4 => rw [if_neg (by omega), if_neg (by omega), if_neg (by omega), if_neg (by omega), if_neg (by omega), if_neg (by omega)]
theorem g_perm {D : va_G} {A : Nat → Prop} {ws wn : va_W} {H : Heap} (hP : va_P D vwCl ws H) (hD : va_D A ws) (isP : List Nat) (hM : isP.map (fun i => ws[i]?) = wn.map some) (hn : va_nd isP = true) : va_P D vwCl wn H ∧ va_D A wn := ⟨hP.sub isP (map_some_fm hM), hD.sub isP hn hM⟩
section STP9
variable {pp : Nat → Int32} {dd : Nat → UInt64} {k : Nat} {v : Int32}
theorem stP_s (hk : k < 5) : pg (stP pp k v) 0 5 = upd (pg pp 0 5) k v := by
  unfold stP; have := pg_in (p := pp) (lo := 0) (v := v) hk; rw [Nat.zero_add] at this; exact this
theorem stP_b (hk : k < 5) : pg (stP pp k v) 5 8 = pg pp 5 8 := by unfold stP; exact pg_out (by omega)
theorem stP_l (hk : k < 5) : pg (stP pp k v) 103 24 = pg pp 103 24 := by unfold stP; exact pg_out (by omega)
theorem stP_p {lo : Nat} (hk : k < 5) (hl : 23 ≤ lo) : p4 (stP pp k v) lo 20 = p4 pp lo 20 := by unfold stP; exact p4_out (by omega)
theorem stP_o {j : Nat} (hk : k < 5) (h : 13 ≤ j) : stP pp k v j = pp j := by unfold stP upd; exact if_neg (by omega)
theorem fgP_s : pg (fgP pp k) 0 5 = pg pp 0 5 := by unfold fgP; exact pg_out (by omega)
theorem fgP_b : pg (fgP pp k) 5 8 = pg pp 5 8 := by unfold fgP; exact pg_out (by omega)
theorem fgP_l (hk : k < 24) : pg (fgP pp k) 103 24 = upd (pg pp 103 24) k 0 := by unfold fgP; exact pg_in hk
theorem fgP_p {lo : Nat} (hl : lo ≤ 26) : p4 (fgP pp k) lo 20 = p4 pp lo 20 := by unfold fgP; exact p4_out (by omega)
theorem fgP_o {j : Nat} (h : j < 103) : fgP pp k j = pp j := by unfold fgP upd; exact if_neg (by omega)
theorem fgD_0 (hk : k < 24) : d2 (fgD dd k) 0 24 = vf_upd (d2 dd 0 24) k FP.dconst0 := by
  unfold fgD
  rw [d2_out (by omega) (by decide)]
  have := d2_in (d := dd) (k := 0) (v := FP.dconst0) hk
  rw [Nat.add_zero] at this; exact this
theorem fgD_1 (hk : k < 24) : d2 (fgD dd k) 1 24 = vf_upd (d2 dd 1 24) k FP.dconst0 := by
  unfold fgD
  rw [d2_in hk, d2_out (by omega) (by decide)]
theorem fgD_o {j : Nat} (hk : k < 24) (h : 48 ≤ j) : fgD dd k j = dd j := by unfold fgD vf_upd; rw [if_neg (by omega), if_neg (by omega)]
end STP9
theorem lo5_e : ∀ k, k < 5 → lo5 k = loS (nI k) := by decide
theorem hi5_e : ∀ k, k < 5 → hi5 k = hiS (nI k) := by decide
theorem lt_of_ge21 {z : Int32} (h : 21600 ≤ z) : 21599 < z := by
  rw [Int32.le_iff_toInt_le] at h; rw [Int32.lt_iff_toInt_lt]
  have a : (21600 : Int32).toInt = 21600 := rfl
  have b : (21599 : Int32).toInt = 21599 := rfl
  omega
theorem ge21_of_lt {z : Int32} (h : 21599 < z) : 21600 ≤ z := by
  rw [Int32.lt_iff_toInt_lt] at h; rw [Int32.le_iff_toInt_le]
  have a : (21600 : Int32).toInt = 21600 := rfl
  have b : (21599 : Int32).toInt = 21599 := rfl
  omega
