/-! What the states between two calls keep. -/
def qjA (cn t : Nat) (p : Nat → Int32) : Prop :=
  (cn ≤ 20 ∧ p 20 = nI cn) ∧ ((1 ≤ (p 0).toInt ∧ (p 0).toInt ≤ 600) ∧ 1 ≤ (p 1).toInt ∧ (p 1).toInt ≤ 100) ∧
  (∀ i, i < 8 → -120 ≤ (p (5 + i)).toInt ∧ (p (5 + i)).toInt ≤ 120) ∧
  ((-16200 ≤ (p 13).toInt ∧ (p 13).toInt ≤ 16200) ∧ 0 ≤ (p 14).toInt ∧ (p 14).toInt ≤ 5400) ∧
  (∀ k, k < cn → inS (azS p k) (alS p k)) ∧ (∀ k, cn ≤ k → k < 20 → p (25 + 4 * k) = 0 ∧ p (26 + 4 * k) = 0) ∧
  (p 17 = sumI (p4 p 25 20) cn ∧ p 18 = sumI (p4 p 26 20) cn) ∧ (p 22 = 0 ∨ p 22 = 1) ∧
  (∀ r, r < 24 → ∃ L, L ≤ t ∧ p (103 + r) = nI L)
def qjD (t : Nat) (d : Nat → UInt64) : Prop :=
  (∀ j, (j < 48 ∨ j = 50 ∨ j = 51) → qzB (242 * (t + 1)) (d j) ∧ qzZ (d j)) ∧ (∀ j, (j = 48 ∨ j = 49) → qzB (242 * (t + 2)) (d j) ∧ qzZ (d j))
def qjL (cn : Nat) (p : Nat → Int32) (d : Nat → UInt64) : Prop :=
  ¬ p 22 = 0 → ∃ k, k < cn ∧ p 21 = nI k ∧ (¬ p (103 + rgS p k) = 0 → d (2 * rgS p k) = d 50 ∧ d (2 * rgS p k + 1) = d 51) ∧ qzL (d 50) (d 48) ∧ qzL (d 51) (d 49)
def qjS (cn t : Nat) (p : Nat → Int32) (d : Nat → UInt64) : Prop := qjA cn t p ∧ qjD t d ∧ qjL cn p d
def qJ (t : Nat) (p : Nat → Int32) (d : Nat → UInt64) : Prop := ∃ cn, qjS cn t p d
section QJ
variable {cn t k n : Nat} {p p2 : Nat → Int32} {d e2 : Nat → UInt64}
theorem qj_rg (h1 : p2 (23 + 4 * k) = p (23 + 4 * k)) (h2 : p2 (24 + 4 * k) = p (24 + 4 * k)) : rgS p2 k = rgS p k := by
  show rgN (p2 (23 + 4 * k)) (p2 (24 + 4 * k)) = rgN (p (23 + 4 * k)) (p (24 + 4 * k)); rw [h1, h2]
theorem qjD_up {u : Nat} (h : qjD t d) (hu : t ≤ u) : qjD u d :=
  ⟨fun j hj => ⟨qzB_up (h.1 j hj).1 (by omega), (h.1 j hj).2⟩, fun j hj => ⟨qzB_up (h.2 j hj).1 (by omega), (h.2 j hj).2⟩⟩
theorem qjA_up {u : Nat} (h : qjA cn t p) (hu : t ≤ u) : qjA cn u p := by
  obtain ⟨h1, h2, h3, h4, h5, h6, h7, h8, h9⟩ := h
  exact ⟨h1, h2, h3, h4, h5, h6, h7, h8, fun r hr => by obtain ⟨L, l1, l2⟩ := h9 r hr; exact ⟨L, by omega, l2⟩⟩
theorem qjS_up {u : Nat} (h : qjS cn t p d) (hu : t ≤ u) : qjS cn u p d := ⟨qjA_up h.1 hu, qjD_up h.2.1 hu, h.2.2⟩
theorem qj_p4 {lo : Nat} (hp : ∀ j, j < 127 → p j = p2 j) (hl : lo ≤ 40) : p4 p lo 20 = p4 p2 lo 20 := by
  funext i; unfold p4
  split
  · exact hp _ (by omega)
  · rfl
theorem qjS_ext (h : qjS cn t p d) (hp : ∀ j, j < 127 → p j = p2 j) (hd : ∀ j, j < 52 → d j = e2 j) : qjS cn t p2 e2 := by
  obtain ⟨⟨h1, h2, h3, h4, h5, h6, h7, h8, h9⟩, ⟨d1, d2'⟩, hL⟩ := h
  refine ⟨⟨?_, ?_, ?_, ?_, ?_, ?_, ?_, ?_, ?_⟩, ⟨?_, ?_⟩, ?_⟩
  · rw [← hp 20 (by decide)]; exact h1
  · rw [← hp 0 (by decide), ← hp 1 (by decide)]; exact h2
  · intro i hi; rw [← hp (5 + i) (by omega)]; exact h3 i hi
  · rw [← hp 13 (by decide), ← hp 14 (by decide)]; exact h4
  · intro k hk
    show inS (p2 (23 + 4 * k)) (p2 (24 + 4 * k))
    have := h1.1
    rw [← hp (23 + 4 * k) (by omega), ← hp (24 + 4 * k) (by omega)]; exact h5 k hk
  · intro k hk hk2
    rw [← hp (25 + 4 * k) (by omega), ← hp (26 + 4 * k) (by omega)]; exact h6 k hk hk2
  · rw [← hp 17 (by decide), ← hp 18 (by decide), ← qj_p4 (lo := 25) hp (by decide), ← qj_p4 (lo := 26) hp (by decide)]; exact h7
  · rw [← hp 22 (by decide)]; exact h8
  · intro r hr; rw [← hp (103 + r) (by omega)]; exact h9 r hr
  · intro j hj; rw [← hd j (by omega)]; exact d1 j hj
  · intro j hj; rw [← hd j (by omega)]; exact d2' j hj
  · intro h22
    rw [← hp 22 (by decide)] at h22
    obtain ⟨k, k1, k2, k3, k4, k5⟩ := hL h22
    have := h1.1
    have hr : rgS p2 k = rgS p k := qj_rg (hp _ (by omega)).symm (hp _ (by omega)).symm
    have hr24 : rgS p k < 24 := rgN_lt (h5 k k1)
    rw [← hd 50 (by decide), ← hd 51 (by decide), ← hd 48 (by decide), ← hd 49 (by decide)]
    refine ⟨k, k1, by rw [← hp 21 (by decide)]; exact k2, ?_, k4, k5⟩
    rw [hr, ← hp (103 + rgS p k) (by omega), ← hd (2 * rgS p k) (by omega), ← hd (2 * rgS p k + 1) (by omega)]
    exact k3
/-! the source of a region with a lesson is its own -/
theorem dsN_self : ∀ i, i < 24 → dsN i i = 0 := by decide +kernel
theorem dsN_pos : ∀ i, i < 24 → ∀ j, j < 24 → i ≠ j → 0 < dsN i j := by decide +kernel
theorem src_own {le : Nat → Int32} {r : Nat} (hr : r < 24) (h : 0 < le r) : ∀ m, r + 1 + m ≤ 24 → srcN le r (r + 1 + m) = some r
  | 0, hm => by
    show (match srcN le r r with
      | none => if 0 < le r then some r else none
      | some q => if 0 < le r ∧ dsN r r < dsN r q then some r else some q) = some r
    cases e : srcN le r r with
    | none => exact if_pos h
    | some q =>
      have hq := srcN_lt r q e
      exact if_pos ⟨h, by rw [dsN_self r hr]; exact dsN_pos r hr q (by omega) (by omega)⟩
  | m + 1, hm => by
    have ih := src_own hr h m (by omega)
    show (match srcN le r (r + 1 + m) with
      | none => if 0 < le (r + 1 + m) then some (r + 1 + m) else none
      | some q => if 0 < le (r + 1 + m) ∧ dsN r (r + 1 + m) < dsN r q then some (r + 1 + m) else some q) = some r
    rw [ih]
    exact if_neg fun z => by have := z.2; rw [dsN_self r hr] at this; omega
theorem hld_own {le : Nat → Int32} {r : Nat} {f : Nat → UInt64} (hr : r < 24) (h : 0 < le r) : hldF le f r = f r := by
  have e := src_own hr h (23 - r) (by omega)
  rw [show r + 1 + (23 - r) = 24 by omega] at e
  unfold hldF; rw [e]
theorem hld_ok {le : Nat → Int32} {r w : Nat} (hD : qjD t d) (hw : w < 2) : qzB (242 * (t + 1)) (hldF le (d2 d w 24) r) ∧ qzZ (hldF le (d2 d w 24) r) := by
  unfold hldF
  cases e : srcN le r 24 with
  | none => exact ⟨qzB_up qz_zero (Nat.zero_le _), by show ¬ FP.dconst0 = 0x8000000000000000; decide⟩
  | some q =>
    have hq := srcN_lt 24 q e
    dsimp only
    rw [d2_at hq]
    exact hD.1 _ (Or.inl (by omega))
theorem hg_rng (x : Int32) : (0 ≤ (hgF x).toInt ∧ (hgF x).toInt ≤ 5400) ∧ ((hgF x).toInt = x.toInt ∨ (x.toInt < 0 ∧ (hgF x).toInt = 0) ∨ (5400 < x.toInt ∧ (hgF x).toInt = 5400)) := by
  have k0 : (0 : Int32).toInt = 0 := rfl
  have k5 : (5400 : Int32).toInt = 5400 := rfl
  unfold hgF
  by_cases c : x < 0
  · rw [if_pos c]
    rw [Int32.lt_iff_toInt_lt, k0] at c
    omega
  · rw [if_neg c]
    rw [Int32.lt_iff_toInt_lt, k0] at c
    by_cases c2 : 5400 < x
    · rw [if_pos c2]
      rw [Int32.lt_iff_toInt_lt, k5] at c2
      omega
    · rw [if_neg c2]
      rw [Int32.lt_iff_toInt_lt, k5] at c2
      omega
theorem mis_B {x : UInt64} {e : Int} {B : Nat} (hf : qzF x) (he : -((B : Int) + 2) ≤ e ∧ e ≤ (B : Int) + 2) (h1 : (e - 240) * (qzO : Int) ≤ qzV x) (h2 : qzV x ≤ (e + 240) * (qzO : Int)) : qzB (B + 242) x := by
  have m1 : -((B + 242 : Nat) : Int) * (qzO : Int) ≤ (e - 240) * (qzO : Int) := Int.mul_le_mul_of_nonneg_right (by omega) (Int.natCast_nonneg _)
  have m2 : (e + 240) * (qzO : Int) ≤ ((B + 242 : Nat) : Int) * (qzO : Int) := Int.mul_le_mul_of_nonneg_right (by omega) (Int.natCast_nonneg _)
  rw [Int.neg_mul] at m1
  exact ⟨hf, by omega, by omega⟩
/-- all that is told of the plan of an aim -/
theorem pl_ok (hA : qjA cn t p) (hD : qjD t d) (ht : t ≤ JT) (hk : inS (azS p k) (alS p k)) : plOK p d k ∧ (qzB (242 * (t + 1)) (plA p d k) ∧ qzZ (plA p d k)) ∧ (qzB (242 * (t + 1)) (plH p d k) ∧ qzZ (plH p d k)) ∧ (qzB (242 * (t + 2)) (plMA p d k) ∧ qzZ (plMA p d k)) ∧ (qzB (242 * (t + 2)) (plMH p d k) ∧ qzZ (plMH p d k)) ∧ qzL (plA p d k) (plMA p d k) ∧ qzL (plH p d k) (plMH p d k) := by
  unfold JT at ht
  have a : qzB (242 * (t + 1)) (plA p d k) ∧ qzZ (plA p d k) := hld_ok hD (by decide)
  have h : qzB (242 * (t + 1)) (plH p d k) ∧ qzZ (plH p d k) := hld_ok hD (by decide)
  have ra := rnd_ok (by omega) a.1
  have rh := rnd_ok (by omega) h.1
  have hT := (hg_rng (alS p k - rndF (plH p d k))).1
  have hs : sdS p k < 2 := sdN_lt (azS p k)
  have hb := hA.2.2.1
  have b1 := bn_ok (pp := p) (i := 4 * sdS p k + 0) (h := plT p d k) (hb _ (by omega)) (hb _ (by omega)) hT
  have b2 := bn_ok (pp := p) (i := 4 * sdS p k + 2) (h := plT p d k) (hb _ (by omega)) (hb _ (by omega)) hT
  have e1 := qz_ineg (x := rndF (plA p d k)) (by omega)
  have m1 := mis_ok (e := -(rndF (plA p d k))) (by rw [e1]; omega) b1.2
  rw [e1] at m1
  have hR := (hg_rng (alS p k - rndF (plH p d k))).2
  have e2 : (alS p k - rndF (plH p d k)).toInt = (alS p k).toInt - (rndF (plH p d k)).toInt := Jvm.Kit.i32_sub (by have := hk.2; omega) (by have := hk.2; omega)
  have e3 : (plT p d k - alS p k).toInt = (plT p d k).toInt - (alS p k).toInt := Jvm.Kit.i32_sub (by have := hk.2; have : (plT p d k).toInt = (hgF (alS p k - rndF (plH p d k))).toInt := rfl; omega) (by have := hk.2; have : (plT p d k).toInt = (hgF (alS p k - rndF (plH p d k))).toInt := rfl; omega)
  rw [e2] at hR
  have e4 : (plT p d k).toInt = (hgF (alS p k - rndF (plH p d k))).toInt := rfl
  have h2 := hk.2
  have m2 := mis_ok (e := plT p d k - alS p k) (by rw [e3]; omega) b2.2
  rw [e3] at m2
  have w1 : qzB (242 * (t + 2)) (plMA p d k) := qzB_up (mis_B (B := 242 * (t + 1)) m1.1 (by omega) m1.2.1.1 m1.2.1.2) (by omega)
  have w2 : qzB (242 * (t + 2)) (plMH p d k) := qzB_up (mis_B (B := 242 * (t + 1)) m2.1 (by omega) m2.2.1.1 m2.2.1.2) (by omega)
  have s1 : ∀ x : UInt64, qzF x → vf_n64 (FP.dsub 4602678819172646912 x) := fun x hx => by
    rw [show FP.dsub 4602678819172646912 x = FP.dadd 4602678819172646912 (FP.Core.dneg x) from FP.Core.dsub_eq _ _]
    exact qz_n64 (qz_addN qz_half.1 (qz_negF hx))
  refine ⟨⟨⟨qz_n64 (qz_addN a.1.1 qz_half.1), s1 _ a.1.1⟩, ⟨qz_n64 (qz_addN h.1.1 qz_half.1), s1 _ h.1.1⟩, b1.1, b2.1, qz_n64 (qz_fn w1.1), qz_n64 (qz_fn w2.1)⟩, a, h, ⟨w1, m1.2.2⟩, ⟨w2, m2.2.2⟩, ?_, ?_⟩
  · exact ⟨_, _, ra.1, by omega, m1.2.1⟩
  · exact ⟨_, _, rh.1, by omega, m2.2.1⟩
theorem le_ok {r : Nat} (hD : qjD t d) (hr : r < 24) : leOK p d r := by
  have f : ∀ j, j < 48 ∨ j = 50 ∨ j = 51 → qzF (d j) := fun j hj => (hD.1 j hj).1.1
  have g : ∀ j, j = 48 ∨ j = 49 → qzF (d j) := fun j hj => (hD.2 j hj).1.1
  unfold leOK
  refine ⟨tch_n ?_ (g _ (by decide)), tch_n ?_ (g _ (by decide))⟩
  · split
    · exact f _ (by decide)
    · exact f _ (by omega)
  · split
    · exact f _ (by decide)
    · exact f _ (by omega)
/-! an aim -/
theorem nt_rng {x a : Int32} (ha : 0 ≤ a.toInt ∧ a.toInt < 21600) : -16200 ≤ (ntF x a).toInt ∧ (ntF x a).toInt ≤ 16200 := by
  have k : (21600 : Int32).toInt = 21600 := rfl
  have k1 : (-16200 : Int32).toInt = -16200 := rfl
  have k2 : (16200 : Int32).toInt = 16200 := rfl
  have e : (a - 21600).toInt = a.toInt - 21600 := Jvm.Kit.i32_sub (by rw [k]; omega) (by rw [k]; omega)
  unfold ntF
  by_cases c : -16200 ≤ a - 21600
  · rw [if_pos c]
    rw [Int32.le_iff_toInt_le, k1, e] at c
    by_cases c2 : a ≤ 16200
    · rw [if_pos c2]
      rw [Int32.le_iff_toInt_le, k2] at c2
      split
      · rw [e]; omega
      · omega
    · rw [if_neg c2]
      rw [Int32.le_iff_toInt_le, k2] at c2
      rw [e]; omega
  · rw [if_neg c]
    rw [Int32.le_iff_toInt_le, k1, e] at c
    omega
theorem sumI_hi {f : Nat → Int32} {v : Int32} : ∀ n, n ≤ k → sumI (upd f k v) n = sumI f n
  | 0, _ => rfl
  | n + 1, h => by
    show sumI (upd f k v) n + upd f k v n = sumI f n + f n
    rw [sumI_hi n (by omega), pk_un (by omega)]
theorem sumI_upd {f : Nat → Int32} {v : Int32} : ∀ n, k < n → sumI (upd f k (f k + v)) n = sumI f n + v
  | 0, h => absurd h (Nat.not_lt_zero _)
  | n + 1, h => by
    show sumI (upd f k (f k + v)) n + upd f k (f k + v) n = sumI f n + f n + v
    by_cases c : k = n
    · subst c
      rw [sumI_hi k (Nat.le_refl _), pk_us, Int32.add_assoc]
    · rw [sumI_upd n (by omega), pk_un (by omega), Int32.add_assoc, Int32.add_comm v, ← Int32.add_assoc]
theorem go_ne {j : Nat} (hj : j ≠ k) (hj2 : j < 20) : goP p d k (25 + 4 * j) = p (25 + 4 * j) ∧ goP p d k (26 + 4 * j) = p (26 + 4 * j) := by
  unfold goP; constructor <;> simp (disch := omega) only [pk_un]
theorem goD_lo {j : Nat} (hj : j < 48) : goD p d k j = d j := by unfold goD; simp (disch := omega) only [vf_un]
theorem qj_go (h : qjS cn t p d) (ht : t ≤ JT) (hk : k < cn) : qjS cn t (goP p d k) (goD p d k) := by
  obtain ⟨hA, hD, hL⟩ := h
  have hA0 := hA
  obtain ⟨⟨a1, a2⟩, h2, h3, h4, h5, h6, ⟨h7, h7'⟩, h8, h9⟩ := hA
  have hk20 : k < 20 := by omega
  obtain ⟨-, q1, q2, q3, q4, q5, q6⟩ := pl_ok hA0 hD ht (h5 k hk)
  refine ⟨⟨⟨a1, by rw [goP_20 hk20]; exact a2⟩, by rw [goP_o (by decide), goP_o (by decide)]; exact h2, fun i hi => by rw [goP_o (by omega)]; exact h3 i hi, ?_, ?_, ?_, ?_, Or.inr goP_22, ?_⟩, ⟨?_, ?_⟩, ?_⟩
  · rw [goP_13, goP_14]
    have hz := cmF_toInt (azS p k - rndF (plA p d k))
    have z1 := Int.emod_nonneg (azS p k - rndF (plA p d k)).toInt (show (21600 : Int) ≠ 0 by decide)
    have z2 := Int.emod_lt_of_pos (azS p k - rndF (plA p d k)).toInt (show (0 : Int) < 21600 by decide)
    refine ⟨nt_rng (a := plZ p d k) ?_, (hg_rng (alS p k - rndF (plH p d k))).1⟩
    show 0 ≤ (cmF (azS p k - rndF (plA p d k))).toInt ∧ (cmF (azS p k - rndF (plA p d k))).toInt < 21600
    omega
  · intro j hj
    rw [az_go (by omega), al_go (by omega)]; exact h5 j hj
  · intro j hj hj2
    have z := go_ne (p := p) (d := d) (k := k) (j := j) (by omega) hj2
    rw [z.1, z.2]; exact h6 j hj hj2
  · rw [goP_17, goP_18, goP_ai hk20, goP_fi hk20, sumI_upd cn hk, sumI_upd cn hk, h7, h7']
    exact ⟨rfl, rfl⟩
  · intro r hr
    rw [goP_hi hk20 (by omega)]; exact h9 r hr
  · intro j hj
    rcases hj with hj | hj | hj
    · rw [goD_lo hj]; exact hD.1 j (Or.inl hj)
    · subst hj; rw [goD_50]; exact q1
    · subst hj; rw [goD_51]; exact q2
  · intro j hj
    rcases hj with hj | hj
    · subst hj; rw [goD_48]; exact q3
    · subst hj; rw [goD_49]; exact q4
  · intro _
    have hr : rgS p k < 24 := rgN_lt (h5 k hk)
    have er : rgS (goP p d k) k = rgS p k := qj_rg (az_go hk20) (al_go hk20)
    refine ⟨k, hk, goP_21, ?_, by rw [goD_50, goD_48]; exact q5, by rw [goD_51, goD_49]; exact q6⟩
    rw [er, goP_hi hk20 (by omega), goD_lo (j := 2 * rgS p k) (by omega), goD_lo (j := 2 * rgS p k + 1) (by omega), goD_50, goD_51]
    intro hz
    obtain ⟨L, l1, l2⟩ := h9 (rgS p k) hr
    have hpos : 0 < pg p 103 24 (rgS p k) := by
      rw [pg_at hr, l2]
      unfold JT at ht
      rw [Int32.lt_iff_toInt_lt, nI_toInt (by omega), show (0 : Int32).toInt = 0 from rfl]
      rcases Nat.eq_zero_or_pos L with z | z
      · subst z; exact absurd l2 hz
      · omega
    unfold plA plH
    rw [hld_own hr hpos, hld_own hr hpos, d2_at hr, d2_at hr]
    exact ⟨rfl, rfl⟩
/-! a lesson -/
theorem qj_le (h : qjS cn t p d) (ht : t ≤ JT) (h22 : ¬ p 22 = 0) : qjS cn (t + 1) (leP p (rgS p (p 21).toInt.toNat)) (leD p d (rgS p (p 21).toInt.toNat)) := by
  obtain ⟨⟨⟨a1, a2⟩, h2, h3, h4, h5, h6, ⟨h7, h7'⟩, h8, h9⟩, hD, hL⟩ := h
  obtain ⟨k, k1, k2, k3, k4, k5⟩ := hL h22
  have hr2 : rgS p k < 24 := rgN_lt (h5 k k1)
  rw [k2, nI_tn (by omega)]
  generalize rgS p k = r at hr2 k3 ⊢
  unfold JT at ht
  have c0 : leA p d r 0 = tchF (d 50) (d 48) (p 1) := by
    show tchF (if p (103 + r) = 0 then d 50 else d (2 * r)) (d 48) (p 1) = _
    by_cases c : p (103 + r) = 0
    · rw [if_pos c]
    · rw [if_neg c, (k3 c).1]
  have c1 : leA p d r 1 = tchF (d 51) (d 49) (p 1) := by
    show tchF (if p (103 + r) = 0 then d 51 else d (2 * r + 1)) (d 49) (p 1) = _
    by_cases c : p (103 + r) = 0
    · rw [if_pos c]
    · rw [if_neg c, (k3 c).2]
  have b0 := hD.1 50 (by decide)
  have b1 := hD.1 51 (by decide)
  have m0 := hD.2 48 (by decide)
  have m1 := hD.2 49 (by decide)
  have t0 := tch_ok (rt := p 1) (B := 242 * (t + 1)) (by omega) b0.1 m0.1.1 h2.2 k4
  have t1 := tch_ok (rt := p 1) (B := 242 * (t + 1)) (by omega) b1.1 m1.1.1 h2.2 k5
  have z0 : qzZ (tchF (d 50) (d 48) (p 1)) := qz_addZ b0.1.1 (qz_ls (M := 242 * (t + 2)) (by omega) m0.1 h2.2).1.1 b0.2
  have z1 : qzZ (tchF (d 51) (d 49) (p 1)) := qz_addZ b1.1.1 (qz_ls (M := 242 * (t + 2)) (by omega) m1.1 h2.2).1.1 b1.2
  refine ⟨⟨⟨a1, ?_⟩, ?_, ?_, ?_, ?_, ?_, ?_, Or.inl leP_22, ?_⟩, ⟨?_, ?_⟩, fun z => absurd leP_22 z⟩
  · rw [leP_lo (by decide) (by decide)]; exact a2
  · rw [leP_lo (by decide) (by decide), leP_lo (by decide) (by decide)]; exact h2
  · intro i hi; rw [leP_lo (by omega) (by omega)]; exact h3 i hi
  · rw [leP_lo (by decide) (by decide), leP_lo (by decide) (by decide)]; exact h4
  · intro j hj
    show inS (leP p r (23 + 4 * j)) (leP p r (24 + 4 * j))
    rw [leP_lo (by omega) (by omega), leP_lo (by omega) (by omega)]; exact h5 j hj
  · intro j hj hj2
    rw [leP_lo (by omega) (by omega), leP_lo (by omega) (by omega)]; exact h6 j hj hj2
  · rw [leP_lo (by decide) (by decide), leP_lo (by decide) (by decide), leP_ai, leP_fi]; exact ⟨h7, h7'⟩
  · intro r2 hr3
    by_cases c : r2 = r
    · subst c
      obtain ⟨L, l1, l2⟩ := h9 r2 hr3
      refine ⟨L + 1, by omega, ?_⟩
      unfold leP
      rw [pk_un (by omega), pk_us, l2, nI_1]
    · obtain ⟨L, l1, l2⟩ := h9 r2 hr3
      refine ⟨L, by omega, ?_⟩
      unfold leP
      rw [pk_un (by omega), pk_un (by omega), l2]
  · intro j hj
    unfold leD
    by_cases e1 : j = 2 * r + 1
    · subst e1
      rw [vf_us, c1]; exact ⟨qzB_up t1 (by omega), z1⟩
    · rw [vf_un e1]
      by_cases e0 : j = 2 * r + 0
      · subst e0
        rw [vf_us, c0]; exact ⟨qzB_up t0 (by omega), z0⟩
      · rw [vf_un e0]; exact ⟨qzB_up (hD.1 j hj).1 (by omega), (hD.1 j hj).2⟩
  · intro j hj
    unfold leD
    rw [vf_un (by omega), vf_un (by omega)]; exact ⟨qzB_up (hD.2 j hj).1 (by omega), (hD.2 j hj).2⟩
theorem qj_gole (h : qjS cn t p d) (ht : t ≤ JT) (hk : k < cn) : qjS cn (t + 1) (leP (goP p d k) (rgS p k)) (leD (goP p d k) (goD p d k) (rgS p k)) := by
  have g := qj_go h ht hk
  have l := qj_le g ht (by rw [goP_22]; decide)
  rw [rg_go (by have := h.1.1.1; omega)] at l
  exact l
theorem qj_la (h : qjS cn t p d) (ht : t + cn ≤ JT) : ∀ n, n ≤ cn → ∀ (x : Nat → Int32) (y : Nat → UInt64) (v : Int32), laS p d n = some (x, y, v) → qjS cn (t + n) x y
  | 0, _, x, y, v, e => by cases e; exact h
  | n + 1, hn, x, y, v, e => by
    unfold laS at e
    cases e9 : laS p d n with
    | none => rw [e9] at e; cases e
    | some z =>
      obtain ⟨a, b, v1⟩ := z
      have ih := qj_la h ht n (by omega) a b v1 e9
      rw [e9] at e
      dsimp only at e
      split at e
      · cases e; exact qjS_up ih (by omega)
      · split at e
        · cases e; exact qjS_up ih (by omega)
        · split at e
          · cases e
          · cases e
            have g := qj_gole (k := n) ih (show t + n ≤ JT by omega) (by omega)
            exact g
/-! stars, bends, settings, regions forgotten -/
theorem qj_ad {z h : Int32} (hS : qjS cn t p d) (hz : inS z h) (hcn : cn < 20) : qjS (cn + 1) t (adP p cn z h) d := by
  obtain ⟨⟨⟨a1, a2⟩, h2, h3, h4, h5, h6, ⟨h7, h7'⟩, h8, h9⟩, hD, hL⟩ := hS
  have st : ∀ j, 23 ≤ j → j ≠ 23 + 4 * cn → j ≠ 24 + 4 * cn → adP p cn z h j = p j := fun j q1 q2 q3 => by
    unfold adP; simp (disch := omega) only [pk_un]
  refine ⟨⟨⟨hcn, adP_20⟩, ?_, ?_, ?_, ?_, ?_, ?_, ?_, ?_⟩, hD, ?_⟩
  · rw [adP_o (by decide) (by decide), adP_o (by decide) (by decide)]; exact h2
  · intro i hi; rw [adP_o (by omega) (by omega)]; exact h3 i hi
  · rw [adP_o (by decide) (by decide), adP_o (by decide) (by decide)]; exact h4
  · intro j hj
    show inS (adP p cn z h (23 + 4 * j)) (adP p cn z h (24 + 4 * j))
    by_cases c : j = cn
    · subst c
      have e1 : adP p j z h (23 + 4 * j) = z := by unfold adP; rw [pk_un (by omega), pk_un (by omega), pk_us]
      have e2 : adP p j z h (24 + 4 * j) = h := by unfold adP; rw [pk_un (by omega), pk_us]
      rw [e1, e2]; exact hz
    · rw [st _ (by omega) (by omega) (by omega), st _ (by omega) (by omega) (by omega)]; exact h5 j (by omega)
  · intro j hj hj2
    rw [st _ (by omega) (by omega) (by omega), st _ (by omega) (by omega) (by omega)]; exact h6 j (by omega) hj2
  · rw [adP_o (by decide) (by decide), adP_o (by decide) (by decide), adP_ai, adP_fi, h7, h7']
    have e := h6 cn (Nat.le_refl _) hcn
    constructor
    · show sumI (p4 p 25 20) cn = sumI (p4 p 25 20) cn + p4 p 25 20 cn
      rw [p4_at hcn, e.1, Int32.add_zero]
    · show sumI (p4 p 26 20) cn = sumI (p4 p 26 20) cn + p4 p 26 20 cn
      rw [p4_at hcn, e.2, Int32.add_zero]
  · rw [adP_o (by decide) (by decide)]; exact h8
  · intro r hr; rw [st _ (by omega) (by omega) (by omega)]; exact h9 r hr
  · intro h22
    rw [adP_o (by decide) (by decide)] at h22
    obtain ⟨k, k1, k2, k3, k4⟩ := hL h22
    have er : rgS (adP p cn z h) k = rgS p k := qj_rg (st _ (by omega) (by omega) (by omega)) (st _ (by omega) (by omega) (by omega))
    have hr : rgS p k < 24 := rgN_lt (h5 k k1)
    refine ⟨k, by omega, by rw [adP_o (by decide) (by decide)]; exact k2, ?_, k4⟩
    rw [er, st _ (by omega) (by omega) (by omega)]; exact k3
/-- a change of a number below 13 -/
theorem qj_lo (hS : qjS cn t p d) (h1 : ∀ j, 13 ≤ j → p2 j = p j) (h2 : (1 ≤ (p2 0).toInt ∧ (p2 0).toInt ≤ 600) ∧ 1 ≤ (p2 1).toInt ∧ (p2 1).toInt ≤ 100) (h3 : ∀ i, i < 8 → -120 ≤ (p2 (5 + i)).toInt ∧ (p2 (5 + i)).toInt ≤ 120) : qjS cn t p2 d := by
  obtain ⟨⟨⟨a1, a2⟩, -, -, h4, h5, h6, h7, h8, h9⟩, hD, hL⟩ := hS
  have e4 : ∀ lo, 13 ≤ lo → p4 p2 lo 20 = p4 p lo 20 := fun lo hl => by
    funext i; unfold p4; rw [h1 _ (by omega)]
  refine ⟨⟨⟨a1, by rw [h1 _ (by decide)]; exact a2⟩, h2, h3, by rw [h1 _ (by decide), h1 _ (by decide)]; exact h4, ?_, ?_, ?_, by rw [h1 _ (by decide)]; exact h8, ?_⟩, hD, ?_⟩
  · intro j hj
    show inS (p2 (23 + 4 * j)) (p2 (24 + 4 * j))
    rw [h1 _ (by omega), h1 _ (by omega)]; exact h5 j hj
  · intro j hj hj2
    rw [h1 _ (by omega), h1 _ (by omega)]; exact h6 j hj hj2
  · rw [h1 _ (by decide), h1 _ (by decide), e4 _ (by decide), e4 _ (by decide)]; exact h7
  · intro r hr; rw [h1 _ (by omega)]; exact h9 r hr
  · intro h22
    rw [h1 _ (by decide)] at h22
    obtain ⟨k, k1, k2, k3, k4⟩ := hL h22
    have er : rgS p2 k = rgS p k := qj_rg (h1 _ (by omega)) (h1 _ (by omega))
    refine ⟨k, k1, by rw [h1 _ (by decide)]; exact k2, ?_, k4⟩
    rw [er, h1 _ (by omega)]; exact k3
theorem qj_bd {i : Nat} {v : Int32} (hS : qjS cn t p d) (hi : i < 8) (hv : -120 ≤ v.toInt ∧ v.toInt ≤ 120) : qjS cn t (bdP p i v) d := by
  have e : ∀ j, j ≠ 5 + i → bdP p i v j = p j := fun j hj => pk_un hj
  refine qj_lo hS (fun j hj => e j (by omega)) (by rw [e 0 (by omega), e 1 (by omega)]; exact hS.1.2.1) (fun j hj => ?_)
  by_cases c : j = i
  · subst c
    have : bdP p j v (5 + j) = v := pk_us
    rw [this]; exact hv
  · rw [e _ (by omega)]; exact hS.1.2.2.1 j hj
theorem qj_st {x v : Int32} (hS : qjS cn t p d) (hc : cdSet p x v = 0) : qjS cn t (stP p x.toInt.toNat v) d := by
  have hk := cdSet_k hc
  have hv : vaS x v := Classical.byContradiction fun z => by rw [cdSet_1 z] at hc; exact absurd hc (by decide)
  obtain ⟨⟨x1, x2⟩, v1, v2⟩ := hv
  have k0 : (0 : Int32).toInt = 0 := rfl
  rw [Int32.lt_iff_toInt_lt, k0] at x1
  rw [Int32.lt_iff_toInt_lt] at v1 v2
  have e : ∀ j, j ≠ x.toInt.toNat → stP p x.toInt.toNat v j = p j := fun j hj => pk_un hj
  have h0 := hS.1.2.1
  refine qj_lo hS (fun j hj => e j (by omega)) ⟨?_, ?_⟩ (fun j hj => by rw [e _ (by omega)]; exact hS.1.2.2.1 j hj)
  · by_cases c : 0 = x.toInt.toNat
    · have ex : x = 0 := Int32.toInt_inj.mp (by rw [k0]; omega)
      have ev : stP p x.toInt.toNat v 0 = v := by rw [← c]; exact pk_us
      rw [ev]
      subst ex
      have l1 : (loS 0).toInt = 1 := rfl
      have l2 : (hiS 0).toInt = 600 := rfl
      omega
    · rw [e 0 c]; exact h0.1
  · by_cases c : 1 = x.toInt.toNat
    · have ex : x = 1 := Int32.toInt_inj.mp (by rw [show (1 : Int32).toInt = 1 from rfl]; omega)
      have ev : stP p x.toInt.toNat v 1 = v := by rw [← c]; exact pk_us
      rw [ev]
      subst ex
      have l1 : (loS 1).toInt = 1 := rfl
      have l2 : (hiS 1).toInt = 100 := rfl
      omega
    · rw [e 1 c]; exact h0.2
theorem qj_fg (hS : qjS cn t p d) (hk : k < 24) : qjS cn t (fgP p k) (fgD d k) := by
  obtain ⟨⟨⟨a1, a2⟩, h2, h3, h4, h5, h6, h7, h8, h9⟩, hD, hL⟩ := hS
  have e : ∀ j, j ≠ 103 + k → fgP p k j = p j := fun j hj => pk_un hj
  have e4 : ∀ lo, lo ≤ 26 → p4 (fgP p k) lo 20 = p4 p lo 20 := fun lo hl => by
    funext i; unfold p4
    split
    · exact e _ (by omega)
    · rfl
  have f : ∀ j, j ≠ 2 * k → j ≠ 2 * k + 1 → fgD d k j = d j := fun j q1 q2 => by unfold fgD; rw [vf_un q2, vf_un q1]
  refine ⟨⟨⟨a1, by rw [e _ (by omega)]; exact a2⟩, by rw [e _ (by omega), e _ (by omega)]; exact h2, fun i hi => by rw [e _ (by omega)]; exact h3 i hi, by rw [e _ (by omega), e _ (by omega)]; exact h4, ?_, ?_, ?_, by rw [e _ (by omega)]; exact h8, ?_⟩, ⟨?_, ?_⟩, ?_⟩
  · intro j hj
    show inS (fgP p k (23 + 4 * j)) (fgP p k (24 + 4 * j))
    rw [e _ (by omega), e _ (by omega)]; exact h5 j hj
  · intro j hj hj2
    rw [e _ (by omega), e _ (by omega)]; exact h6 j hj hj2
  · rw [e _ (by omega), e _ (by omega), e4 _ (by decide), e4 _ (by decide)]; exact h7
  · intro r hr
    by_cases c : r = k
    · subst c
      exact ⟨0, Nat.zero_le _, (pk_us : fgP p r (103 + r) = 0)⟩
    · rw [e _ (by omega)]; exact h9 r hr
  · intro j hj
    have z : qzB (242 * (t + 1)) FP.dconst0 ∧ qzZ FP.dconst0 := ⟨qzB_up qz_zero (Nat.zero_le _), by show ¬ FP.dconst0 = 0x8000000000000000; decide⟩
    unfold fgD
    by_cases q1 : j = 2 * k + 1
    · subst q1; rw [vf_us]; exact z
    · rw [vf_un q1]
      by_cases q0 : j = 2 * k
      · subst q0; rw [vf_us]; exact z
      · rw [vf_un q0]; exact hD.1 j hj
  · intro j hj; rw [f _ (by omega) (by omega)]; exact hD.2 j hj
  · intro h22
    rw [e _ (by omega)] at h22
    obtain ⟨i, i1, i2, i3, i4⟩ := hL h22
    have er : rgS (fgP p k) i = rgS p i := qj_rg (e _ (by omega)) (e _ (by omega))
    have hr : rgS p i < 24 := rgN_lt (h5 i i1)
    rw [f 50 (by omega) (by omega), f 51 (by omega) (by omega), f 48 (by omega) (by omega), f 49 (by omega) (by omega)]
    refine ⟨i, i1, by rw [e _ (by omega)]; exact i2, ?_, i4⟩
    rw [er]
    intro hz
    have hne : rgS p i ≠ k := fun z => hz (by rw [z]; exact pk_us)
    rw [e _ (by omega)] at hz
    rw [f _ (by omega) (by omega), f _ (by omega) (by omega)]
    exact i3 hz
end QJ
