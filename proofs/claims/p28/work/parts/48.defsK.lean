/-! The class's tour. -/
def lpL : Nat → List Nat
  | 1 => [0]
  | 2 => [1, 2]
  | 3 => [5, 7, 11, 15, 19, 21]
  | 4 => [27, 30, 39, 45, 54, 57, 75, 78, 99, 108, 114, 120, 135, 141, 147, 156, 177, 180, 198, 201, 210, 216, 225, 228]
  | 5 => [194, 198, 214, 222, 238, 242, 294, 298, 334, 346, 358, 366, 414, 422, 434, 446, 482, 486, 538, 542, 558, 566, 582, 586, 694, 698, 714, 722, 738, 742, 894, 898, 954, 970, 978, 990, 1014, 1022, 1054, 1070, 1102, 1110, 1138, 1142, 1178, 1190, 1202, 1210, 1294, 1298, 1334, 1346, 1358, 1366, 1394, 1398, 1454, 1470, 1478, 1490, 1634, 1646, 1654, 1670, 1726, 1730, 1758, 1766, 1778, 1790, 1826, 1830, 1914, 1922, 1934, 1946, 1982, 1986, 2014, 2022, 2054, 2070, 2102, 2110, 2134, 2146, 2154, 2170, 2226, 2230, 2382, 2386, 2402, 2410, 2426, 2430, 2538, 2542, 2558, 2566, 2582, 2586, 2638, 2642, 2678, 2690, 2702, 2710, 2758, 2766, 2778, 2790, 2826, 2830, 2882, 2886, 2902, 2910, 2926, 2930]
  | _ => []
abbrev lpG (m t : Nat) : Nat := (lpL m).getD t 0
abbrev lpN (m : Nat) : Nat := (lpL m).length
def swN (o : Nat → Nat) (p q : Nat) : Nat → Nat := fun j => if j = p then o q else if j = q then o p else o j
def rvN (m a i : Nat) (s : Nat → Nat) : Nat → Nat := fun j => if (a ≤ j ∧ j < a + i) ∨ (m - i ≤ j ∧ j < m) then s (a + m - 1 - j) else s j
def nxN (m a R : Nat) (o : Nat → Nat) : Nat → Nat := fun j => if j < a then swN o (a - 1) R j else swN o (a - 1) R (a + m - 1 - j)
theorem lp_le : ∀ m, m ≤ 5 → lpN m ≤ 120 := by decide +kernel
def r5 (m : Nat) (p : Nat → Bool) : Bool := (List.range m).all p
theorem r5_of {m : Nat} {p : Nat → Bool} (h : r5 m p = true) {j : Nat} (hj : j < m) : p j = true := List.all_eq_true.mp h j (List.mem_range.mpr hj)
abbrev stC (m a R : Nat) (o : Nat → Nat) : Prop := 1 ≤ a ∧ a ≤ R ∧ o (a - 1) ≤ o a ∧ (∀ j, j < m → a ≤ j → j + 1 < m → o (j + 1) < o j) ∧ (∀ j, j < m → R < j → o j < o (a - 1)) ∧ (R = a ∨ o (a - 1) ≤ o R)
/-- one step of the orders, for every way that it can go -/
def stT (m t : Nat) : Bool := r5 m fun a => r5 m fun R => decide (stC m a R (dgN m (lpG m t)) → t + 1 < lpN m ∧ ∀ j, j < m → dgN m (lpG m (t + 1)) j = nxN m a R (dgN m (lpG m t)) j)
def stF (m t : Nat) : Bool := decide ((∀ j, j < m → j + 1 < m → dgN m (lpG m t) (j + 1) < dgN m (lpG m t) j) → t + 1 = lpN m)
def gpT (m t : Nat) : Bool := decide (isP m (lpG m t)) && decide (lpG m t < pwN m m) && if t + 1 < lpN m then (List.range (lpG m (t + 1) - lpG m t - 1)).all fun y => decide (¬ isP m (lpG m t + 1 + y)) else (List.range (pwN m m - lpG m t - 1)).all fun y => decide (¬ isP m (lpG m t + 1 + y))
def gp0 (m : Nat) : Bool := (List.range (lpG m 0)).all fun y => decide (¬ isP m y)
def dg0 (m : Nat) : Bool := r5 m fun j => decide (dgN m (lpG m 0) j = j)
theorem tours : ((List.range 6).all fun m => m == 0 || (gp0 m && dg0 m && decide (1 ≤ lpN m) && (List.range (lpN m)).all fun t => stT m t && stF m t && gpT m t)) = true := by decide +kernel
theorem tours_m {m : Nat} (h1 : 1 ≤ m) (h5 : m ≤ 5) : gp0 m = true ∧ dg0 m = true ∧ 1 ≤ lpN m ∧ ∀ t, t < lpN m → stT m t = true ∧ stF m t = true ∧ gpT m t = true := by
  have h := List.all_eq_true.mp tours m (List.mem_range.mpr (by omega))
  have h0 : (m == 0) = false := by simp; omega
  rw [h0, Bool.false_or, Bool.and_eq_true, Bool.and_eq_true, Bool.and_eq_true] at h
  obtain ⟨⟨⟨a, b⟩, c⟩, d⟩ := h
  refine ⟨a, b, of_decide_eq_true c, fun t ht => ?_⟩
  have h := List.all_eq_true.mp d t (List.mem_range.mpr ht)
  rw [Bool.and_eq_true, Bool.and_eq_true] at h
  exact ⟨h.1.1, h.1.2, h.2⟩
section TRK
variable {m t a R : Nat}
theorem st_T (h1 : 1 ≤ m) (h5 : m ≤ 5) (ht : t < lpN m) (ha1 : 1 ≤ a) (ha : a < m) (hR : R < m) (haR : a ≤ R) (c1 : dgN m (lpG m t) (a - 1) ≤ dgN m (lpG m t) a) (c2 : ∀ j, a ≤ j → j + 1 < m → dgN m (lpG m t) (j + 1) < dgN m (lpG m t) j) (c3 : ∀ j, R < j → j < m → dgN m (lpG m t) j < dgN m (lpG m t) (a - 1)) (c4 : R = a ∨ dgN m (lpG m t) (a - 1) ≤ dgN m (lpG m t) R) : t + 1 < lpN m ∧ ∀ j, j < m → dgN m (lpG m (t + 1)) j = nxN m a R (dgN m (lpG m t)) j := by
  have h := of_decide_eq_true (r5_of (r5_of (((tours_m h1 h5).2.2.2 t ht).1) ha) hR)
  exact h ⟨ha1, haR, c1, fun j _ h1 h2 => c2 j h1 h2, fun j h1 h2 => c3 j h2 h1, c4⟩
theorem st_F (h1 : 1 ≤ m) (h5 : m ≤ 5) (ht : t < lpN m) (c2 : ∀ j, j + 1 < m → dgN m (lpG m t) (j + 1) < dgN m (lpG m t) j) : t + 1 = lpN m := by
  exact of_decide_eq_true ((tours_m h1 h5).2.2.2 t ht).2.1 fun j _ h => c2 j h
theorem gp_P (h1 : 1 ≤ m) (h5 : m ≤ 5) (ht : t < lpN m) : isP m (lpG m t) ∧ lpG m t < pwN m m := by
  have h := ((tours_m h1 h5).2.2.2 t ht).2.2
  unfold gpT at h
  rw [Bool.and_eq_true, Bool.and_eq_true] at h
  exact ⟨of_decide_eq_true h.1.1, of_decide_eq_true h.1.2⟩
theorem bc_gap {f : Nat → Int32} {z : Nat} : ∀ k, (∀ y, y < k → ¬ isP m (z + y)) → bcN m f (z + k) = bcN m f z
  | 0, _ => rfl
  | k + 1, h => (bc_out (h k (Nat.lt_succ_self _))).trans (bc_gap k fun y hy => h y (Nat.lt_succ_of_lt hy))
theorem bc_0 {f : Nat → Int32} (h1 : 1 ≤ m) (h5 : m ≤ 5) : bcN m f (lpG m 0) = none := by
  have h := (tours_m h1 h5).1
  have := bc_gap (m := m) (f := f) (z := 0) (lpG m 0) (fun y hy => by
    rw [Nat.zero_add]
    exact of_decide_eq_true (List.all_eq_true.mp h y (List.mem_range.mpr hy)))
  rw [Nat.zero_add] at this
  exact this
theorem dg_0 (h1 : 1 ≤ m) (h5 : m ≤ 5) {j : Nat} (hj : j < m) : dgN m (lpG m 0) j = j := of_decide_eq_true (r5_of (tours_m h1 h5).2.1 hj)
theorem lp_up (h5 : m ≤ 5) (ht : t + 1 < lpN m) : lpG m t + 1 ≤ lpG m (t + 1) := by
  have : ((List.range 6).all fun m => (List.range (lpN m)).all fun t => decide (t + 1 < lpN m → lpG m t + 1 ≤ lpG m (t + 1))) = true := by decide +kernel
  exact of_decide_eq_true (List.all_eq_true.mp (List.all_eq_true.mp this m (List.mem_range.mpr (by omega))) t (List.mem_range.mpr (by omega))) ht
theorem bc_nx {f : Nat → Int32} (h1 : 1 ≤ m) (h5 : m ≤ 5) (ht : t + 1 < lpN m) : bcN m f (lpG m (t + 1)) = bcN m f (lpG m t + 1) := by
  have h := ((tours_m h1 h5).2.2.2 t (by omega)).2.2
  unfold gpT at h
  rw [if_pos ht, Bool.and_eq_true] at h
  have := bc_gap (m := m) (f := f) (z := lpG m t + 1) (lpG m (t + 1) - lpG m t - 1) (fun y hy => of_decide_eq_true (List.all_eq_true.mp h.2 y (List.mem_range.mpr hy)))
  have q := lp_up h5 ht
  rw [show lpG m t + 1 + (lpG m (t + 1) - lpG m t - 1) = lpG m (t + 1) by omega] at this
  exact this
theorem bc_end {f : Nat → Int32} (h1 : 1 ≤ m) (h5 : m ≤ 5) (ht : t + 1 = lpN m) : bcN m f (pwN m m) = bcN m f (lpG m t + 1) := by
  have h := ((tours_m h1 h5).2.2.2 t (by omega)).2.2
  have hp := (gp_P h1 h5 (t := t) (by omega)).2
  unfold gpT at h
  rw [if_neg (by omega), Bool.and_eq_true] at h
  have := bc_gap (m := m) (f := f) (z := lpG m t + 1) (pwN m m - lpG m t - 1) (fun y hy => of_decide_eq_true (List.all_eq_true.mp h.2 y (List.mem_range.mpr hy)))
  rw [show lpG m t + 1 + (pwN m m - lpG m t - 1) = pwN m m by omega] at this
  exact this
theorem sw_upd {f : Nat → Int32} {o : Nat → Nat} {p q : Nat} (hp : p < m) (hq : q < m) (h : ∀ j, j < m → f j = nI (o j)) : ∀ j, j < m → upd (upd f p (f q)) q (f p) j = nI (swN o p q j) := fun j hj => by
  unfold upd swN
  by_cases e : j = q
  · rw [if_pos e]
    by_cases e2 : j = p
    · rw [if_pos e2, h p hp, show p = q by omega]
    · rw [if_neg e2, if_pos e, h p hp]
  · rw [if_neg e]
    by_cases e2 : j = p
    · rw [if_pos e2, if_pos e2, h q hq]
    · rw [if_neg e2, if_neg e2, if_neg e, h j hj]
theorem rv_0 {s : Nat → Nat} {j : Nat} (hj : j < m) : rvN m a 0 s j = s j := by unfold rvN; rw [if_neg (by omega)]
theorem rv_s {s : Nat → Nat} {i j : Nat} (hlt : a + i < m - 1 - i) (hj : j < m) : swN (rvN m a i s) (a + i) (m - 1 - i) j = rvN m a (i + 1) s j := by
  unfold swN
  by_cases e : j = a + i
  · rw [if_pos e]; unfold rvN; rw [if_neg (by omega), if_pos (by omega)]; congr 1; omega
  · rw [if_neg e]
    by_cases e2 : j = m - 1 - i
    · rw [if_pos e2]; unfold rvN; rw [if_neg (by omega), if_pos (by omega)]; congr 1; omega
    · rw [if_neg e2]; unfold rvN
      by_cases q : (a ≤ j ∧ j < a + i) ∨ (m - i ≤ j ∧ j < m)
      · rw [if_pos q, if_pos (by omega)]
      · rw [if_neg q, if_neg (by omega)]
theorem rv_end {o : Nat → Nat} {i j : Nat} (ha1 : 1 ≤ a) (hlt : m - 1 - i ≤ a + i) (hi : a + i ≤ m) (hj : j < m) : rvN m a i (swN o (a - 1) R) j = nxN m a R o j := by
  unfold rvN nxN
  by_cases q : j < a
  · rw [if_pos q, if_neg (by omega)]
  · rw [if_neg q]
    by_cases q2 : (a ≤ j ∧ j < a + i) ∨ (m - i ≤ j ∧ j < m)
    · rw [if_pos q2]
    · rw [if_neg q2, show a + m - 1 - j = j by omega]
end TRK
theorem lt5 {j : Nat} (h : j < 5) : j = 0 ∨ j = 1 ∨ j = 2 ∨ j = 3 ∨ j = 4 := by omega
/-- the plan of star k in an aim's fields -/
def plJ (pp : Nat → Int32) (dd : Nat → UInt64) (k : Nat) : Nat → Int32 := j6 (nI k) (nI (sdS pp k)) (nI (rgS pp k)) (plZ pp dd k) (plT pp dd k) 1
def plD (pp : Nat → Int32) (dd : Nat → UInt64) (k : Nat) : Nat → UInt64 := d4 (plA pp dd k) (plH pp dd k) (plMA pp dd k) (plMH pp dd k)
def plR (pp : Nat → Int32) (dd : Nat → UInt64) (me : Nat → Nat) (aj : Nat → Nat → Int32) (n : Nat) : Prop := ∀ i, i < n → aj i 0 = nI (me i) ∧ aj i 1 = nI (sdS pp (me i)) ∧ aj i 3 = plZ pp dd (me i) ∧ aj i 4 = plT pp dd (me i)
section TRP
variable {pp : Nat → Int32} {dd : Nat → UInt64} {aj : Nat → Nat → Int32} {x : Int32} {n i k : Nat} {L : List Nat}
theorem plR_s (hn : n = L.length) (e : n = k) (h : plR pp dd (meL L) aj n) : plR pp dd (meL (L ++ [i])) (va_up aj k (plJ pp dd i)) (n + 1) := fun j hj => by
  subst e
  unfold va_up
  by_cases q : j = n
  · have e2 : meL (L ++ [i]) j = i := by
      unfold meL; rw [List.getD_eq_getElem?_getD, List.getElem?_append_right (by omega), show j - L.length = 0 by omega]; rfl
    rw [if_pos q, e2]
    exact ⟨rfl, rfl, rfl, rfl⟩
  · have e2 : meL (L ++ [i]) j = meL L j := by
      unfold meL; rw [List.getD_eq_getElem?_getD, List.getElem?_append_left (by omega), List.getD_eq_getElem?_getD]
    rw [if_neg q, e2]
    exact h j (by omega)
theorem od_s {od : Nat → Int32} (h : ∀ j, j < n → od j = nI j) : ∀ j, j < n + 1 → upd od n (nI n) j = nI j := fun j hj => by
  unfold upd
  by_cases q : j = n
  · rw [if_pos q, q]
  · rw [if_neg q]; exact h j (by omega)
theorem bits_pre : ∀ j, ∃ l, bitsL x (i + j) = bitsL x i ++ l
  | 0 => ⟨[], (List.append_nil _).symm⟩
  | j + 1 => by
    obtain ⟨l, h⟩ := bits_pre j
    by_cases c : bitI x (i + j) = 1
    · exact ⟨l ++ [i + j], by rw [show i + (j + 1) = i + j + 1 by omega, bits_y c, h, List.append_assoc]⟩
    · exact ⟨l, by rw [show i + (j + 1) = i + j + 1 by omega, bits_n c, h]⟩
theorem bits_full {cn : Nat} (hi : i ≤ cn) (h5 : (bitsL x cn).length ≤ 5) (c : i = cn ∨ (bitsL x i).length = 5) : bitsL x i = bitsL x cn := by
  rcases c with c | c
  · rw [c]
  · obtain ⟨l, h⟩ := bits_pre (x := x) (i := i) (cn - i)
    rw [show i + (cn - i) = cn by omega] at h
    have hl : l = [] := by
      rw [h, List.length_append] at h5
      exact List.length_eq_zero_iff.mp (by omega)
    rw [h, hl, List.append_nil]
end TRP
theorem tm_cong {pp : Nat → Int32} {dd : Nat → UInt64} {f h : Nat → Nat} : ∀ n, (∀ j, j < n → f j = h j) → tmS pp dd f n = tmS pp dd h n
  | 0, _ => rfl
  | n + 1, e => by unfold tmS; rw [tm_cong n fun j hj => e j (by omega), e n (by omega)]
theorem io_g {k : Nat} (hk : k < 100) (c : ¬ nI k - 1 < 0) : 1 ≤ k := by
  obtain ⟨j, h, _⟩ := io_n1 hk c
  omega
theorem io_z {k : Nat} (hk : k < 100) (c : ¬ 0 ≤ nI k - 1) : k = 0 := io_n0 hk (Int32.not_le.mp c)
theorem io_p {k : Nat} (hk : k < 100) (c : 0 ≤ nI k - 1) : 1 ≤ k := io_g hk (Int32.not_lt.mpr c)
theorem m1p1 {a : Nat} : nI a - 1 + 1 = nI a := Int32.sub_add_cancel (nI a) 1
theorem m2_eq {k : Nat} (h : 1 ≤ k) : nI k - 2 = nI (k - 1) - 1 := by
  obtain ⟨j, rfl⟩ : ∃ j, k = j + 1 := ⟨k - 1, by omega⟩
  rw [show j + 1 - 1 = j by omega, ← nI_add j 1]
  show nI j + 1 - 2 = nI j - 1
  rw [Int32.sub_eq_add_neg, Int32.add_assoc, Int32.sub_eq_add_neg]
  rfl
theorem oex {α : Type} {o : Option α} (h : ¬ o = none) : ∃ b, o = some b := by
  cases o with
  | none => exact absurd rfl h
  | some b => exact ⟨b, rfl⟩
theorem seo {α : Type} {o : Option α} {bt : Int32} (h : ∀ b, o = some b → ¬ bt = -1) (c : bt = -1) : o = none := by
  cases o with
  | none => rfl
  | some b => exact absurd c (h b rfl)
